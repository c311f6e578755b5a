-- SquareCuts.print
def fn11_print_b20 (N : Nat)  (r2 : Nat) (M : am_Mem) : Option (Int32 × am_Mem) :=
  am_bd (fn11_refusalFor M r2) (fun v1 M2 => some (v1, M2))
def fn11_print_b0 (N : Nat)  (r0 : Nat) (x1 : Int32) (M : am_Mem) : Option (Int32 × am_Mem) :=
  am_ck (am_k M r0 11) (am_ck (am_k M (am_R M r0 8) 9) (am_bd (fn9_find M (am_R M r0 8) x1) (fun v3 M4 => if v3 = 0 then fn11_print_b20 N  v3 M4 else am_ck (am_k M4 v3 10) (if (am_I M4 v3 1) = 0 then am_ck (am_k M4 r0 11) (am_ck (am_k M4 (am_R M4 r0 7) 7) (am_bd (fn7_write N M4 (am_R M4 r0 7) v3) (fun v9 M10 => am_ck (am_k M10 r0 11) (am_ck (am_k M10 (am_R M10 r0 7) 7) (some ((am_I M10 (am_R M10 r0 7) 1), M10)))))) else fn11_print_b20 N  v3 M4))))
def fn11_print (N : Nat) (M : am_Mem) (r0 : Nat) (x1 : Int32) : Option (Int32 × am_Mem) := fn11_print_b0 N r0 x1 M
def rm11_print : Room := { frames := 3, cells := 0, slots := 0, locals := 65 }
set_option maxRecDepth 20000 in
theorem sn11_print_b20 {l : Launch} {G : am_G} {v : Int32} {M' : am_Mem} {N : Nat}  (cx : am_Ctx l rm11_print yX11_print cX11_print 3 (some .int) (some (.inl v)) M' 0 0 G)  {r2 : Nat} {M : am_Mem} (hres : fn11_print_b20 N  r2 M = some (v, M')) : G 20 [(2, .inr (.inr (.inl r2)))] [] M 0 0 := by
  unfold fn11_print_b20 at hres
  refine am_aload_n cx 0 dX11_print_20 rfl ?_
  obtain ⟨v1, M2, q3, hres⟩ := am_bd_some hres
  refine am_callS1 cx [.inr (.inr (.inl r2))] dX11_print_21 csX11_169 (mt11_refusalFor q3)  ⟨rfl, rfl, Nat.le_of_ble_eq_true rfl, Nat.le_of_ble_eq_true rfl⟩ rfl (Nat.le_of_ble_eq_true rfl) ⟨Nat.le_of_ble_eq_true rfl, Nat.le_of_ble_eq_true rfl⟩ ?_
  obtain ⟨rfl, rfl⟩ := am_fin hres
  exact am_iret cx dX11_print_24
set_option maxRecDepth 20000 in
theorem sn11_print_b0 {l : Launch} {G : am_G} {v : Int32} {M' : am_Mem} {N : Nat}  (cx : am_Ctx l rm11_print yX11_print cX11_print 3 (some .int) (some (.inl v)) M' 0 0 G)  {r0 : Nat} {x1 : Int32} {M : am_Mem} (hres : fn11_print_b0 N  r0 x1 M = some (v, M')) : G 0 [(0, .inr (.inr (.inl r0))), (1, .inl x1)] [] M 0 0 := by
  unfold fn11_print_b0 at hres
  refine am_aload_n cx 0 dX11_print_0 rfl ?_
  obtain ⟨q1, hres⟩ := am_ck_some hres
  refine am_getR cx dX11_print_1 flX11_66 (am_ke q1) ?_
  refine am_iload_n cx 1 dX11_print_4 rfl ?_
  obtain ⟨q2, hres⟩ := am_ck_some hres
  obtain ⟨v3, M4, q5, hres⟩ := am_bd_some hres
  refine am_callV1 cx [.inl x1] dX11_print_5 cvX11_115 (mt9_find q5) (am_ke q2) ⟨rfl, rfl, Nat.le_of_ble_eq_true rfl, Nat.le_of_ble_eq_true rfl⟩ rfl (Nat.le_of_ble_eq_true rfl) ⟨Nat.le_of_ble_eq_true rfl, Nat.le_of_ble_eq_true rfl⟩ ?_
  refine am_astore_n cx (lv' := [(0, .inr (.inr (.inl r0))), (1, .inl x1), (2, .inr (.inr (.inl v3)))]) dX11_print_8 (Nat.le_of_ble_eq_true rfl) rfl ?_
  refine am_aload_n cx 2 dX11_print_9 rfl ?_
  refine am_ifnull cx (tgt := 20) dX11_print_10 (by decide) (fun h => ?_) (fun h => ?_)
  · have hres := am_ifp h hres
    refine am_sub cx [2] rfl ?_
    exact sn11_print_b20 cx  hres
  · have hres := am_ifn h hres
    refine am_aload_n cx 2 dX11_print_13 rfl ?_
    obtain ⟨q6, hres⟩ := am_ck_some hres
    refine am_getI cx dX11_print_14 flX11_123 (am_ke q6) ?_
    refine am_if_eq cx (tgt := 25) dX11_print_17 (by decide) (fun h => ?_) (fun h => ?_)
    · have hres := am_ifp h hres
      refine am_aload_n cx 0 dX11_print_25 rfl ?_
      obtain ⟨q7, hres⟩ := am_ck_some hres
      refine am_getR cx dX11_print_26 flX11_59 (am_ke q7) ?_
      refine am_aload_n cx 2 dX11_print_29 rfl ?_
      obtain ⟨q8, hres⟩ := am_ck_some hres
      obtain ⟨v9, M10, q11, hres⟩ := am_bd_some hres
      refine am_callV0 cx [.inr (.inr (.inl v3))] dX11_print_30 cvX11_176 (mt7_write q11) (am_ke q8) ⟨rfl, rfl, Nat.le_of_ble_eq_true rfl, Nat.le_of_ble_eq_true rfl⟩ rfl (Nat.le_of_ble_eq_true rfl) ⟨Nat.le_of_ble_eq_true rfl, Nat.le_of_ble_eq_true rfl⟩ ?_
      refine am_aload_n cx 0 dX11_print_33 rfl ?_
      obtain ⟨q12, hres⟩ := am_ck_some hres
      refine am_getR cx dX11_print_34 flX11_59 (am_ke q12) ?_
      obtain ⟨q13, hres⟩ := am_ck_some hres
      refine am_getI cx dX11_print_37 flX11_179 (am_ke q13) ?_
      obtain ⟨rfl, rfl⟩ := am_fin hres
      exact am_iret cx dX11_print_40
    · have hres := am_ifn h hres
      refine am_sub cx [2] rfl ?_
      exact sn11_print_b20 cx  hres
set_option maxRecDepth 20000 in
theorem mt11_print {l : Launch} {v : Int32} {M M' : am_Mem} {N : Nat} {r0 : Nat} {x1 : Int32} (h : fn11_print N M r0 x1 = some (v, M')) : am_Met l yX11_print cX11_print 3 (some .int) rm11_print 0 0 [.inr (.inr (.inl r0)), .inl x1] M (some (.inl v)) M' := am_mk (by decide) (Nat.le_of_ble_eq_true rfl) (fun G cx => (sn11_print_b0 cx h))
-- SquareCuts.lines
def fn11_lines_b20 (N : Nat)  (r2 : Nat) (M : am_Mem) : Option (Int32 × am_Mem) :=
  am_bd (fn11_refusalFor M r2) (fun v1 M2 => some (v1, M2))
def fn11_lines_b0 (N : Nat)  (r0 : Nat) (x1 : Int32) (M : am_Mem) : Option (Int32 × am_Mem) :=
  am_ck (am_k M r0 11) (am_ck (am_k M (am_R M r0 8) 9) (am_bd (fn9_find M (am_R M r0 8) x1) (fun v3 M4 => if v3 = 0 then fn11_lines_b20 N  v3 M4 else am_ck (am_k M4 v3 10) (if (am_I M4 v3 1) = 0 then am_ck (am_k M4 r0 11) (am_ck (am_k M4 (am_R M4 r0 6) 2) (am_bd (fn2_build N M4 (am_R M4 r0 6) v3) (fun v9 M10 => am_ck (am_k M10 r0 11) (am_ck (am_k M10 (am_R M10 r0 6) 2) (some ((am_I M10 (am_R M10 r0 6) 4), M10)))))) else fn11_lines_b20 N  v3 M4))))
def fn11_lines (N : Nat) (M : am_Mem) (r0 : Nat) (x1 : Int32) : Option (Int32 × am_Mem) := fn11_lines_b0 N r0 x1 M
def rm11_lines : Room := { frames := 3, cells := 0, slots := 0, locals := 69 }
set_option maxRecDepth 20000 in
theorem sn11_lines_b20 {l : Launch} {G : am_G} {v : Int32} {M' : am_Mem} {N : Nat}  (cx : am_Ctx l rm11_lines yX11_lines cX11_lines 3 (some .int) (some (.inl v)) M' 0 0 G)  {r2 : Nat} {M : am_Mem} (hres : fn11_lines_b20 N  r2 M = some (v, M')) : G 20 [(2, .inr (.inr (.inl r2)))] [] M 0 0 := by
  unfold fn11_lines_b20 at hres
  refine am_aload_n cx 0 dX11_lines_20 rfl ?_
  obtain ⟨v1, M2, q3, hres⟩ := am_bd_some hres
  refine am_callS1 cx [.inr (.inr (.inl r2))] dX11_lines_21 csX11_169 (mt11_refusalFor q3)  ⟨rfl, rfl, Nat.le_of_ble_eq_true rfl, Nat.le_of_ble_eq_true rfl⟩ rfl (Nat.le_of_ble_eq_true rfl) ⟨Nat.le_of_ble_eq_true rfl, Nat.le_of_ble_eq_true rfl⟩ ?_
  obtain ⟨rfl, rfl⟩ := am_fin hres
  exact am_iret cx dX11_lines_24
set_option maxRecDepth 20000 in
theorem sn11_lines_b0 {l : Launch} {G : am_G} {v : Int32} {M' : am_Mem} {N : Nat}  (cx : am_Ctx l rm11_lines yX11_lines cX11_lines 3 (some .int) (some (.inl v)) M' 0 0 G)  {r0 : Nat} {x1 : Int32} {M : am_Mem} (hres : fn11_lines_b0 N  r0 x1 M = some (v, M')) : G 0 [(0, .inr (.inr (.inl r0))), (1, .inl x1)] [] M 0 0 := by
  unfold fn11_lines_b0 at hres
  refine am_aload_n cx 0 dX11_lines_0 rfl ?_
  obtain ⟨q1, hres⟩ := am_ck_some hres
  refine am_getR cx dX11_lines_1 flX11_66 (am_ke q1) ?_
  refine am_iload_n cx 1 dX11_lines_4 rfl ?_
  obtain ⟨q2, hres⟩ := am_ck_some hres
  obtain ⟨v3, M4, q5, hres⟩ := am_bd_some hres
  refine am_callV1 cx [.inl x1] dX11_lines_5 cvX11_115 (mt9_find q5) (am_ke q2) ⟨rfl, rfl, Nat.le_of_ble_eq_true rfl, Nat.le_of_ble_eq_true rfl⟩ rfl (Nat.le_of_ble_eq_true rfl) ⟨Nat.le_of_ble_eq_true rfl, Nat.le_of_ble_eq_true rfl⟩ ?_
  refine am_astore_n cx (lv' := [(0, .inr (.inr (.inl r0))), (1, .inl x1), (2, .inr (.inr (.inl v3)))]) dX11_lines_8 (Nat.le_of_ble_eq_true rfl) rfl ?_
  refine am_aload_n cx 2 dX11_lines_9 rfl ?_
  refine am_ifnull cx (tgt := 20) dX11_lines_10 (by decide) (fun h => ?_) (fun h => ?_)
  · have hres := am_ifp h hres
    refine am_sub cx [2] rfl ?_
    exact sn11_lines_b20 cx  hres
  · have hres := am_ifn h hres
    refine am_aload_n cx 2 dX11_lines_13 rfl ?_
    obtain ⟨q6, hres⟩ := am_ck_some hres
    refine am_getI cx dX11_lines_14 flX11_123 (am_ke q6) ?_
    refine am_if_eq cx (tgt := 25) dX11_lines_17 (by decide) (fun h => ?_) (fun h => ?_)
    · have hres := am_ifp h hres
      refine am_aload_n cx 0 dX11_lines_25 rfl ?_
      obtain ⟨q7, hres⟩ := am_ck_some hres
      refine am_getR cx dX11_lines_26 flX11_52 (am_ke q7) ?_
      refine am_aload_n cx 2 dX11_lines_29 rfl ?_
      obtain ⟨q8, hres⟩ := am_ck_some hres
      obtain ⟨v9, M10, q11, hres⟩ := am_bd_some hres
      refine am_callV0 cx [.inr (.inr (.inl v3))] dX11_lines_30 cvX11_223 (mt2_build q11) (am_ke q8) ⟨rfl, rfl, Nat.le_of_ble_eq_true rfl, Nat.le_of_ble_eq_true rfl⟩ rfl (Nat.le_of_ble_eq_true rfl) ⟨Nat.le_of_ble_eq_true rfl, Nat.le_of_ble_eq_true rfl⟩ ?_
      refine am_aload_n cx 0 dX11_lines_33 rfl ?_
      obtain ⟨q12, hres⟩ := am_ck_some hres
      refine am_getR cx dX11_lines_34 flX11_52 (am_ke q12) ?_
      obtain ⟨q13, hres⟩ := am_ck_some hres
      refine am_getI cx dX11_lines_37 flX11_226 (am_ke q13) ?_
      obtain ⟨rfl, rfl⟩ := am_fin hres
      exact am_iret cx dX11_lines_40
    · have hres := am_ifn h hres
      refine am_sub cx [2] rfl ?_
      exact sn11_lines_b20 cx  hres
set_option maxRecDepth 20000 in
theorem mt11_lines {l : Launch} {v : Int32} {M M' : am_Mem} {N : Nat} {r0 : Nat} {x1 : Int32} (h : fn11_lines N M r0 x1 = some (v, M')) : am_Met l yX11_lines cX11_lines 3 (some .int) rm11_lines 0 0 [.inr (.inr (.inl r0)), .inl x1] M (some (.inl v)) M' := am_mk (by decide) (Nat.le_of_ble_eq_true rfl) (fun G cx => (sn11_lines_b0 cx h))
-- SquareCuts.line
def fn11_line_b23 (N : Nat)   (M : am_Mem) : Option (Int32 × am_Mem) :=
  none
def fn11_line_b57 (N : Nat)   (M : am_Mem) : Option (Int32 × am_Mem) :=
  none
def fn11_line_b0 (N : Nat)  (r0 : Nat) (x1 : Int32) (x2 : Int32) (x3 : Int32) (M : am_Mem) : Option (Int32 × am_Mem) :=
  am_ck (am_k M r0 11) (am_ck (am_k M (am_R M r0 8) 9) (am_bd (fn9_find M (am_R M r0 8) x1) (fun v3 M4 => if v3 = 0 then fn11_line_b23 N   M4 else am_ck (am_k M4 v3 10) (if (am_I M4 v3 1) = 0 then am_ck (am_k M4 r0 11) (am_ck (am_k M4 (am_R M4 r0 6) 2) (am_bd (fn2_build N M4 (am_R M4 r0 6) v3) (fun v9 M10 => if x2 < 0 then fn11_line_b57 N   M10 else am_ck (am_k M10 r0 11) (am_ck (am_k M10 (am_R M10 r0 6) 2) (if x2 < (am_I M10 (am_R M10 r0 6) 4) then if x3 = (0 : Int32) then (am_ck (am_k M10 (am_R M10 (am_R M10 r0 6) 0) 14) (am_ck (am_in x2 (am_L M10 (am_R M10 (am_R M10 r0 6) 0))) (some ((am_I M10 (am_R M10 (am_R M10 r0 6) 0) x2.toNatClampNeg), M10)))) else (if x3 = (1 : Int32) then (am_ck (am_k M10 (am_R M10 (am_R M10 r0 6) 1) 14) (am_ck (am_in x2 (am_L M10 (am_R M10 (am_R M10 r0 6) 1))) (some ((am_I M10 (am_R M10 (am_R M10 r0 6) 1) x2.toNatClampNeg), M10)))) else (if x3 = (2 : Int32) then (am_ck (am_k M10 (am_R M10 (am_R M10 r0 6) 2) 14) (am_ck (am_in x2 (am_L M10 (am_R M10 (am_R M10 r0 6) 2))) (some ((am_I M10 (am_R M10 (am_R M10 r0 6) 2) x2.toNatClampNeg), M10)))) else (if x3 = (3 : Int32) then (am_ck (am_k M10 (am_R M10 (am_R M10 r0 6) 3) 14) (am_ck (am_in x2 (am_L M10 (am_R M10 (am_R M10 r0 6) 3))) (some ((am_I M10 (am_R M10 (am_R M10 r0 6) 3) x2.toNatClampNeg), M10)))) else (none)))) else fn11_line_b57 N   M10))))) else fn11_line_b23 N   M4))))
def fn11_line (N : Nat) (M : am_Mem) (r0 : Nat) (x1 : Int32) (x2 : Int32) (x3 : Int32) : Option (Int32 × am_Mem) := fn11_line_b0 N r0 x1 x2 x3 M
def rm11_line : Room := { frames := 3, cells := 0, slots := 0, locals := 69 }
set_option maxRecDepth 20000 in
theorem sn11_line_b23 {l : Launch} {G : am_G} {v : Int32} {M' : am_Mem} {N : Nat}  (cx : am_Ctx l rm11_line yX11_line cX11_line 5 (some .int) (some (.inl v)) M' 0 0 G)   {M : am_Mem} (hres : fn11_line_b23 N   M = some (v, M')) : G 23 [] [] M 0 0 := by
  unfold fn11_line_b23 at hres
  exact am_no hres
set_option maxRecDepth 20000 in
theorem sn11_line_b57 {l : Launch} {G : am_G} {v : Int32} {M' : am_Mem} {N : Nat}  (cx : am_Ctx l rm11_line yX11_line cX11_line 5 (some .int) (some (.inl v)) M' 0 0 G)   {M : am_Mem} (hres : fn11_line_b57 N   M = some (v, M')) : G 57 [] [] M 0 0 := by
  unfold fn11_line_b57 at hres
  exact am_no hres
set_option maxRecDepth 20000 in
theorem sn11_line_b0 {l : Launch} {G : am_G} {v : Int32} {M' : am_Mem} {N : Nat}  (cx : am_Ctx l rm11_line yX11_line cX11_line 5 (some .int) (some (.inl v)) M' 0 0 G)  {r0 : Nat} {x1 : Int32} {x2 : Int32} {x3 : Int32} {M : am_Mem} (hres : fn11_line_b0 N  r0 x1 x2 x3 M = some (v, M')) : G 0 [(0, .inr (.inr (.inl r0))), (1, .inl x1), (2, .inl x2), (3, .inl x3)] [] M 0 0 := by
  unfold fn11_line_b0 at hres
  refine am_aload_n cx 0 dX11_line_0 rfl ?_
  obtain ⟨q1, hres⟩ := am_ck_some hres
  refine am_getR cx dX11_line_1 flX11_66 (am_ke q1) ?_
  refine am_iload_n cx 1 dX11_line_4 rfl ?_
  obtain ⟨q2, hres⟩ := am_ck_some hres
  obtain ⟨v3, M4, q5, hres⟩ := am_bd_some hres
  refine am_callV1 cx [.inl x1] dX11_line_5 cvX11_115 (mt9_find q5) (am_ke q2) ⟨rfl, rfl, Nat.le_of_ble_eq_true rfl, Nat.le_of_ble_eq_true rfl⟩ rfl (Nat.le_of_ble_eq_true rfl) ⟨Nat.le_of_ble_eq_true rfl, Nat.le_of_ble_eq_true rfl⟩ ?_
  refine am_astore cx (lv' := [(0, .inr (.inr (.inl r0))), (1, .inl x1), (2, .inl x2), (3, .inl x3), (4, .inr (.inr (.inl v3)))]) dX11_line_8 (Nat.le_of_ble_eq_true rfl) rfl ?_
  refine am_aload cx 4 dX11_line_10 rfl ?_
  refine am_ifnull cx (tgt := 23) dX11_line_12 (by decide) (fun h => ?_) (fun h => ?_)
  · have hres := am_ifp h hres
    refine am_sub cx [] rfl ?_
    exact sn11_line_b23 cx  hres
  · have hres := am_ifn h hres
    refine am_aload cx 4 dX11_line_15 rfl ?_
    obtain ⟨q6, hres⟩ := am_ck_some hres
    refine am_getI cx dX11_line_17 flX11_123 (am_ke q6) ?_
    refine am_if_eq cx (tgt := 33) dX11_line_20 (by decide) (fun h => ?_) (fun h => ?_)
    · have hres := am_ifp h hres
      refine am_aload_n cx 0 dX11_line_33 rfl ?_
      obtain ⟨q7, hres⟩ := am_ck_some hres
      refine am_getR cx dX11_line_34 flX11_52 (am_ke q7) ?_
      refine am_aload cx 4 dX11_line_37 rfl ?_
      obtain ⟨q8, hres⟩ := am_ck_some hres
      obtain ⟨v9, M10, q11, hres⟩ := am_bd_some hres
      refine am_callV0 cx [.inr (.inr (.inl v3))] dX11_line_39 cvX11_223 (mt2_build q11) (am_ke q8) ⟨rfl, rfl, Nat.le_of_ble_eq_true rfl, Nat.le_of_ble_eq_true rfl⟩ rfl (Nat.le_of_ble_eq_true rfl) ⟨Nat.le_of_ble_eq_true rfl, Nat.le_of_ble_eq_true rfl⟩ ?_
      refine am_iload_n cx 2 dX11_line_42 rfl ?_
      refine am_if_lt cx (tgt := 57) dX11_line_43 (by decide) (fun h => ?_) (fun h => ?_)
      · have hres := am_ifp h hres
        refine am_sub cx [] rfl ?_
        exact sn11_line_b57 cx  hres
      · have hres := am_ifn h hres
        refine am_iload_n cx 2 dX11_line_46 rfl ?_
        refine am_aload_n cx 0 dX11_line_47 rfl ?_
        obtain ⟨q12, hres⟩ := am_ck_some hres
        refine am_getR cx dX11_line_48 flX11_52 (am_ke q12) ?_
        obtain ⟨q13, hres⟩ := am_ck_some hres
        refine am_getI cx dX11_line_51 flX11_226 (am_ke q13) ?_
        refine am_icmp_lt cx (tgt := 67) dX11_line_54 (by decide) (fun h => ?_) (fun h => ?_)
        · have hres := am_ifp h hres
          refine am_iload_n cx 3 dX11_line_67 rfl ?_
          by_cases w14 : x3 = (0 : Int32)
          · refine am_tableIn cx (tgt := 100) (off := 32) dX11_line_68 (by rw [w14]; decide) (by rw [w14]; decide) (by rw [w14]; decide) (by decide) ?_
            have hres := am_ifp w14 hres
            refine am_aload_n cx 0 dX11_line_100 rfl ?_
            refine am_getR cx dX11_line_101 flX11_52 (am_ke q12) ?_
            refine am_getR cx dX11_line_104 flX11_233 (am_ke q13) ?_
            refine am_iload_n cx 2 dX11_line_107 rfl ?_
            obtain ⟨q15, hres⟩ := am_ck_some hres
            obtain ⟨q16, hres⟩ := am_ck_some hres
            refine am_iald cx dX11_line_108 (am_ke q15) q16 ?_
            obtain ⟨rfl, rfl⟩ := am_fin hres
            exact am_iret cx dX11_line_109
          have hres := am_ifn w14 hres
          by_cases w17 : x3 = (1 : Int32)
          · refine am_tableIn cx (tgt := 110) (off := 42) dX11_line_68 (by rw [w17]; decide) (by rw [w17]; decide) (by rw [w17]; decide) (by decide) ?_
            have hres := am_ifp w17 hres
            refine am_aload_n cx 0 dX11_line_110 rfl ?_
            refine am_getR cx dX11_line_111 flX11_52 (am_ke q12) ?_
            refine am_getR cx dX11_line_114 flX11_236 (am_ke q13) ?_
            refine am_iload_n cx 2 dX11_line_117 rfl ?_
            obtain ⟨q18, hres⟩ := am_ck_some hres
            obtain ⟨q19, hres⟩ := am_ck_some hres
            refine am_iald cx dX11_line_118 (am_ke q18) q19 ?_
            obtain ⟨rfl, rfl⟩ := am_fin hres
            exact am_iret cx dX11_line_119
          have hres := am_ifn w17 hres
          by_cases w20 : x3 = (2 : Int32)
          · refine am_tableIn cx (tgt := 120) (off := 52) dX11_line_68 (by rw [w20]; decide) (by rw [w20]; decide) (by rw [w20]; decide) (by decide) ?_
            have hres := am_ifp w20 hres
            refine am_aload_n cx 0 dX11_line_120 rfl ?_
            refine am_getR cx dX11_line_121 flX11_52 (am_ke q12) ?_
            refine am_getR cx dX11_line_124 flX11_237 (am_ke q13) ?_
            refine am_iload_n cx 2 dX11_line_127 rfl ?_
            obtain ⟨q21, hres⟩ := am_ck_some hres
            obtain ⟨q22, hres⟩ := am_ck_some hres
            refine am_iald cx dX11_line_128 (am_ke q21) q22 ?_
            obtain ⟨rfl, rfl⟩ := am_fin hres
            exact am_iret cx dX11_line_129
          have hres := am_ifn w20 hres
          by_cases w23 : x3 = (3 : Int32)
          · refine am_tableIn cx (tgt := 130) (off := 62) dX11_line_68 (by rw [w23]; decide) (by rw [w23]; decide) (by rw [w23]; decide) (by decide) ?_
            have hres := am_ifp w23 hres
            refine am_aload_n cx 0 dX11_line_130 rfl ?_
            refine am_getR cx dX11_line_131 flX11_52 (am_ke q12) ?_
            refine am_getR cx dX11_line_134 flX11_240 (am_ke q13) ?_
            refine am_iload_n cx 2 dX11_line_137 rfl ?_
            obtain ⟨q24, hres⟩ := am_ck_some hres
            obtain ⟨q25, hres⟩ := am_ck_some hres
            refine am_iald cx dX11_line_138 (am_ke q24) q25 ?_
            obtain ⟨rfl, rfl⟩ := am_fin hres
            exact am_iret cx dX11_line_139
          have hres := am_ifn w23 hres
          refine am_tableOut cx (tgt := 140) dX11_line_68 (am_sw (fun cq h1 h2 => ?_)) (by decide) ?_
          · rcases (show cq = 0 ∨ cq = 1 ∨ cq = 2 ∨ cq = 3 by omega) with rfl | rfl | rfl | rfl
            · exact w14
            · exact w17
            · exact w20
            · exact w23
          skip
          exact am_no hres
        · have hres := am_ifn h hres
          refine am_sub cx [] rfl ?_
          exact sn11_line_b57 cx  hres
    · have hres := am_ifn h hres
      refine am_sub cx [] rfl ?_
      exact sn11_line_b23 cx  hres
set_option maxRecDepth 20000 in
theorem mt11_line {l : Launch} {v : Int32} {M M' : am_Mem} {N : Nat} {r0 : Nat} {x1 : Int32} {x2 : Int32} {x3 : Int32} (h : fn11_line N M r0 x1 x2 x3 = some (v, M')) : am_Met l yX11_line cX11_line 5 (some .int) rm11_line 0 0 [.inr (.inr (.inl r0)), .inl x1, .inl x2, .inl x3] M (some (.inl v)) M' := am_mk (by decide) (Nat.le_of_ble_eq_true rfl) (fun G cx => (sn11_line_b0 cx h))
-- SquareCuts.side
def fn11_side_b28 (N : Nat)   (M : am_Mem) : Option (Int32 × am_Mem) :=
  some ((-1 : Int32), M)
def fn11_side_b63 (N : Nat)  (c0 : Nat) (a1 : Int32) (x2 : Int32) (r4 : Nat) (M : am_Mem) : Option (Int32 × am_Mem) :=
  am_ck (am_k M r4 10) (am_ck (am_k M (am_R M r4 7) 14) (am_ck (am_in x2 (am_L M (am_R M r4 7))) (am_ck (am_k M c0 2) (am_bd (fn2_rowOf N M c0 a1 (am_I M (am_R M r4 7) x2.toNatClampNeg)) (fun v5 M6 => some (v5, M6))))))
def fn11_side_b0 (N : Nat)  (r0 : Nat) (x1 : Int32) (x2 : Int32) (x3 : Int32) (M : am_Mem) : Option (Int32 × am_Mem) :=
  am_ck (am_k M r0 11) (am_ck (am_k M (am_R M r0 8) 9) (am_bd (fn9_find M (am_R M r0 8) x1) (fun v3 M4 => if v3 = 0 then fn11_side_b28 N   M4 else if x2 < 0 then fn11_side_b28 N   M4 else am_ck (am_k M4 v3 10) (if x2 < (am_I M4 v3 4) then am_ck (am_k M4 r0 11) (am_ck (am_k M4 (am_R M4 r0 6) 2) (am_bd (fn2_build N M4 (am_R M4 r0 6) v3) (fun v9 M10 => am_ck (am_k M10 r0 11) (if x3 = 0 then am_ck (am_k M10 v3 10) (am_ck (am_k M10 (am_R M10 v3 8) 14) (am_ck (am_in x2 (am_L M10 (am_R M10 v3 8))) (fn11_side_b63 N  (am_R M10 r0 6) (am_I M10 (am_R M10 v3 8) x2.toNatClampNeg) x2 v3 M10))) else am_ck (am_k M10 v3 10) (am_bd (fn10_bottom M10 v3 x2) (fun v17 M18 => fn11_side_b63 N  (am_R M10 r0 6) v17 x2 v3 M18)))))) else fn11_side_b28 N   M4))))
def fn11_side (N : Nat) (M : am_Mem) (r0 : Nat) (x1 : Int32) (x2 : Int32) (x3 : Int32) : Option (Int32 × am_Mem) := fn11_side_b0 N r0 x1 x2 x3 M
def rm11_side : Room := { frames := 3, cells := 0, slots := 0, locals := 69 }
set_option maxRecDepth 20000 in
theorem sn11_side_b28 {l : Launch} {G : am_G} {v : Int32} {M' : am_Mem} {N : Nat}  (cx : am_Ctx l rm11_side yX11_side cX11_side 5 (some .int) (some (.inl v)) M' 0 0 G)   {M : am_Mem} (hres : fn11_side_b28 N   M = some (v, M')) : G 28 [] [] M 0 0 := by
  unfold fn11_side_b28 at hres
  refine am_iconst cx (v := (-1 : Int32)) dX11_side_28 (by decide) ?_
  obtain ⟨rfl, rfl⟩ := am_fin hres
  exact am_iret cx dX11_side_29
set_option maxRecDepth 20000 in
theorem sn11_side_b63 {l : Launch} {G : am_G} {v : Int32} {M' : am_Mem} {N : Nat}  (cx : am_Ctx l rm11_side yX11_side cX11_side 5 (some .int) (some (.inl v)) M' 0 0 G)  {c0 : Nat} {a1 : Int32} {x2 : Int32} {r4 : Nat} {M : am_Mem} (hres : fn11_side_b63 N  c0 a1 x2 r4 M = some (v, M')) : G 63 [(2, .inl x2), (4, .inr (.inr (.inl r4)))] [.inl a1, .inr (.inr (.inl c0))] M 0 0 := by
  unfold fn11_side_b63 at hres
  refine am_aload cx 1 dX11_side_63 rfl ?_
  obtain ⟨q1, hres⟩ := am_ck_some hres
  refine am_getR cx dX11_side_65 flX11_154 (am_ke q1) ?_
  refine am_iload_n cx 0 dX11_side_68 rfl ?_
  obtain ⟨q2, hres⟩ := am_ck_some hres
  obtain ⟨q3, hres⟩ := am_ck_some hres
  refine am_iald cx dX11_side_69 (am_ke q2) q3 ?_
  obtain ⟨q4, hres⟩ := am_ck_some hres
  obtain ⟨v5, M6, q7, hres⟩ := am_bd_some hres
  refine am_callV1 cx [.inl a1, .inl (am_I M (am_R M r4 7) x2.toNatClampNeg)] dX11_side_70 cvX11_248 (mt2_rowOf q7) (am_ke q4) ⟨rfl, rfl, Nat.le_of_ble_eq_true rfl, Nat.le_of_ble_eq_true rfl⟩ rfl (Nat.le_of_ble_eq_true rfl) ⟨Nat.le_of_ble_eq_true rfl, Nat.le_of_ble_eq_true rfl⟩ ?_
  obtain ⟨rfl, rfl⟩ := am_fin hres
  exact am_iret cx dX11_side_73
set_option maxRecDepth 20000 in
theorem sn11_side_b0 {l : Launch} {G : am_G} {v : Int32} {M' : am_Mem} {N : Nat}  (cx : am_Ctx l rm11_side yX11_side cX11_side 5 (some .int) (some (.inl v)) M' 0 0 G)  {r0 : Nat} {x1 : Int32} {x2 : Int32} {x3 : Int32} {M : am_Mem} (hres : fn11_side_b0 N  r0 x1 x2 x3 M = some (v, M')) : G 0 [(0, .inr (.inr (.inl r0))), (1, .inl x1), (2, .inl x2), (3, .inl x3)] [] M 0 0 := by
  unfold fn11_side_b0 at hres
  refine am_aload_n cx 0 dX11_side_0 rfl ?_
  obtain ⟨q1, hres⟩ := am_ck_some hres
  refine am_getR cx dX11_side_1 flX11_66 (am_ke q1) ?_
  refine am_iload_n cx 1 dX11_side_4 rfl ?_
  obtain ⟨q2, hres⟩ := am_ck_some hres
  obtain ⟨v3, M4, q5, hres⟩ := am_bd_some hres
  refine am_callV1 cx [.inl x1] dX11_side_5 cvX11_115 (mt9_find q5) (am_ke q2) ⟨rfl, rfl, Nat.le_of_ble_eq_true rfl, Nat.le_of_ble_eq_true rfl⟩ rfl (Nat.le_of_ble_eq_true rfl) ⟨Nat.le_of_ble_eq_true rfl, Nat.le_of_ble_eq_true rfl⟩ ?_
  refine am_astore cx (lv' := [(0, .inr (.inr (.inl r0))), (1, .inl x1), (2, .inl x2), (3, .inl x3), (4, .inr (.inr (.inl v3)))]) dX11_side_8 (Nat.le_of_ble_eq_true rfl) rfl ?_
  refine am_aload cx 4 dX11_side_10 rfl ?_
  refine am_ifnull cx (tgt := 28) dX11_side_12 (by decide) (fun h => ?_) (fun h => ?_)
  · have hres := am_ifp h hres
    refine am_sub cx [] rfl ?_
    exact sn11_side_b28 cx  hres
  · have hres := am_ifn h hres
    refine am_iload_n cx 2 dX11_side_15 rfl ?_
    refine am_if_lt cx (tgt := 28) dX11_side_16 (by decide) (fun h => ?_) (fun h => ?_)
    · have hres := am_ifp h hres
      refine am_sub cx [] rfl ?_
      exact sn11_side_b28 cx  hres
    · have hres := am_ifn h hres
      refine am_iload_n cx 2 dX11_side_19 rfl ?_
      refine am_aload cx 4 dX11_side_20 rfl ?_
      obtain ⟨q6, hres⟩ := am_ck_some hres
      refine am_getI cx dX11_side_22 flX11_127 (am_ke q6) ?_
      refine am_icmp_lt cx (tgt := 30) dX11_side_25 (by decide) (fun h => ?_) (fun h => ?_)
      · have hres := am_ifp h hres
        refine am_aload_n cx 0 dX11_side_30 rfl ?_
        obtain ⟨q7, hres⟩ := am_ck_some hres
        refine am_getR cx dX11_side_31 flX11_52 (am_ke q7) ?_
        refine am_aload cx 4 dX11_side_34 rfl ?_
        obtain ⟨q8, hres⟩ := am_ck_some hres
        obtain ⟨v9, M10, q11, hres⟩ := am_bd_some hres
        refine am_callV0 cx [.inr (.inr (.inl v3))] dX11_side_36 cvX11_223 (mt2_build q11) (am_ke q8) ⟨rfl, rfl, Nat.le_of_ble_eq_true rfl, Nat.le_of_ble_eq_true rfl⟩ rfl (Nat.le_of_ble_eq_true rfl) ⟨Nat.le_of_ble_eq_true rfl, Nat.le_of_ble_eq_true rfl⟩ ?_
        refine am_aload_n cx 0 dX11_side_39 rfl ?_
        obtain ⟨q12, hres⟩ := am_ck_some hres
        refine am_getR cx dX11_side_40 flX11_52 (am_ke q12) ?_
        refine am_iload_n cx 3 dX11_side_43 rfl ?_
        refine am_if_eq cx (tgt := 56) dX11_side_44 (by decide) (fun h => ?_) (fun h => ?_)
        · have hres := am_ifp h hres
          refine am_aload cx 4 dX11_side_56 rfl ?_
          obtain ⟨q13, hres⟩ := am_ck_some hres
          refine am_getR cx dX11_side_58 flX11_158 (am_ke q13) ?_
          refine am_iload_n cx 2 dX11_side_61 rfl ?_
          obtain ⟨q14, hres⟩ := am_ck_some hres
          obtain ⟨q15, hres⟩ := am_ck_some hres
          refine am_iald cx dX11_side_62 (am_ke q14) q15 ?_
          refine am_sub cx [2, 4] rfl ?_
          exact sn11_side_b63 cx  hres
        · have hres := am_ifn h hres
          refine am_aload cx 4 dX11_side_47 rfl ?_
          refine am_iload_n cx 2 dX11_side_49 rfl ?_
          obtain ⟨q16, hres⟩ := am_ck_some hres
          obtain ⟨v17, M18, q19, hres⟩ := am_bd_some hres
          refine am_callV1 cx [.inl x2] dX11_side_50 cvX11_245 (mt10_bottom q19) (am_ke q16) ⟨rfl, rfl, Nat.le_of_ble_eq_true rfl, Nat.le_of_ble_eq_true rfl⟩ rfl (Nat.le_of_ble_eq_true rfl) ⟨Nat.le_of_ble_eq_true rfl, Nat.le_of_ble_eq_true rfl⟩ ?_
          refine am_goto cx (tgt := 63) dX11_side_53 (by decide) ?_
          refine am_sub cx [2, 4] rfl ?_
          exact sn11_side_b63 cx  hres
      · have hres := am_ifn h hres
        refine am_sub cx [] rfl ?_
        exact sn11_side_b28 cx  hres
set_option maxRecDepth 20000 in
theorem mt11_side {l : Launch} {v : Int32} {M M' : am_Mem} {N : Nat} {r0 : Nat} {x1 : Int32} {x2 : Int32} {x3 : Int32} (h : fn11_side N M r0 x1 x2 x3 = some (v, M')) : am_Met l yX11_side cX11_side 5 (some .int) rm11_side 0 0 [.inr (.inr (.inl r0)), .inl x1, .inl x2, .inl x3] M (some (.inl v)) M' := am_mk (by decide) (Nat.le_of_ble_eq_true rfl) (fun G cx => (sn11_side_b0 cx h))
-- SquareCuts.alike
def fn11_alike_b28 (N : Nat)   (M : am_Mem) : Option (Int32 × am_Mem) :=
  some ((-1 : Int32), M)
def fn11_alike_b86B (N : Nat) (k86 : Nat → Nat → Int32 → Int32 → am_Mem → Option (Int32 × am_Mem)) (r0 : Nat) (r4 : Nat) (x6 : Int32) (x7 : Int32) (M : am_Mem) : Option (Int32 × am_Mem) :=
  if (8 : Int32) ≤ x7 then some ((0 : Int32), M) else am_ck (am_k M r0 11) (am_ck (am_k M (am_R M r0 5) 0) (am_bd (fn0_takeTurned N M (am_R M r0 5) r4 x7 x6) (fun v3 M4 => am_ck (am_k M4 r0 11) (am_ck (am_k M4 (am_R M4 r0 4) 0) (am_bd (fn0_equalTo N M4 (am_R M4 r0 4) (am_R M4 r0 5)) (fun v8 M9 => if v8 = 0 then k86 r0 r4 x6 (x7 + (1 : Int32)) M9 else some ((1 : Int32), M9)))))))
def fn11_alike_b86 (N : Nat)  : Nat → Nat → Nat → Int32 → Int32 → am_Mem → Option (Int32 × am_Mem)
  | 0 => fun _ _ _ _ _ => none
  | i + 1 => fn11_alike_b86B N (fn11_alike_b86 N  i)
def fn11_alike_b57 (N : Nat)   (M : am_Mem) : Option (Int32 × am_Mem) :=
  some ((0 : Int32), M)
def fn11_alike_b0 (N : Nat)  (r0 : Nat) (x1 : Int32) (x2 : Int32) (M : am_Mem) : Option (Int32 × am_Mem) :=
  am_ck (am_k M r0 11) (am_ck (am_k M (am_R M r0 8) 9) (am_bd (fn9_find M (am_R M r0 8) x1) (fun v3 M4 => am_ck (am_k M4 r0 11) (am_ck (am_k M4 (am_R M4 r0 8) 9) (am_bd (fn9_find M4 (am_R M4 r0 8) x2) (fun v8 M9 => if v3 = 0 then fn11_alike_b28 N   M9 else if v8 = 0 then fn11_alike_b28 N   M9 else am_ck (am_k M9 v3 10) (if (am_I M9 v3 1) = 0 then am_ck (am_k M9 v8 10) (if (am_I M9 v8 1) = 0 then if (am_I M9 v3 4) = (am_I M9 v8 4) then am_bd (fn10_commonDivisor N M9 v3) (fun v13 M14 => am_ck (am_k M14 v8 10) (am_bd (fn10_commonDivisor N M14 v8) (fun v17 M18 => am_ck (am_k M18 r0 11) (am_ck (am_k M18 (am_R M18 r0 4) 0) (am_bd (fn0_takeTurned N M18 (am_R M18 r0 4) v3 (0 : Int32) v13) (fun v22 M23 => fn11_alike_b86 N  N r0 v8 v17 (0 : Int32) M23)))))) else fn11_alike_b57 N   M9 else fn11_alike_b57 N   M9) else fn11_alike_b57 N   M9)))))))
def fn11_alike (N : Nat) (M : am_Mem) (r0 : Nat) (x1 : Int32) (x2 : Int32) : Option (Int32 × am_Mem) := fn11_alike_b0 N r0 x1 x2 M
def rm11_alike : Room := { frames := 3, cells := 0, slots := 0, locals := 81 }
set_option maxRecDepth 20000 in
theorem sn11_alike_b28 {l : Launch} {G : am_G} {v : Int32} {M' : am_Mem} {N : Nat}  (cx : am_Ctx l rm11_alike yX11_alike cX11_alike 8 (some .int) (some (.inl v)) M' 0 0 G)   {M : am_Mem} (hres : fn11_alike_b28 N   M = some (v, M')) : G 28 [] [] M 0 0 := by
  unfold fn11_alike_b28 at hres
  refine am_iconst cx (v := (-1 : Int32)) dX11_alike_28 (by decide) ?_
  obtain ⟨rfl, rfl⟩ := am_fin hres
  exact am_iret cx dX11_alike_29
set_option maxRecDepth 20000 in
theorem sn11_alike_b86B {l : Launch} {G : am_G} {v : Int32} {M' : am_Mem} {N : Nat} {k86 : Nat → Nat → Int32 → Int32 → am_Mem → Option (Int32 × am_Mem)} (cx : am_Ctx l rm11_alike yX11_alike cX11_alike 8 (some .int) (some (.inl v)) M' 0 0 G) (hk86 : ∀ (r0 : Nat) (r4 : Nat) (x6 : Int32) (x7 : Int32) (M : am_Mem), k86 r0 r4 x6 x7 M = some (v, M') → G 86 [(0, .inr (.inr (.inl r0))), (4, .inr (.inr (.inl r4))), (6, .inl x6), (7, .inl x7)] [] M 0 0) {r0 : Nat} {r4 : Nat} {x6 : Int32} {x7 : Int32} {M : am_Mem} (hres : fn11_alike_b86B N k86 r0 r4 x6 x7 M = some (v, M')) : G 86 [(0, .inr (.inr (.inl r0))), (4, .inr (.inr (.inl r4))), (6, .inl x6), (7, .inl x7)] [] M 0 0 := by
  unfold fn11_alike_b86B at hres
  refine am_iload cx 3 dX11_alike_86 rfl ?_
  refine am_bipush cx (v := (8 : Int32)) dX11_alike_88 (by decide) ?_
  refine am_icmp_ge cx (tgt := 128) dX11_alike_90 (by decide) (fun h => ?_) (fun h => ?_)
  · have hres := am_ifp h hres
    refine am_iconst cx (v := (0 : Int32)) dX11_alike_128 (by decide) ?_
    obtain ⟨rfl, rfl⟩ := am_fin hres
    exact am_iret cx dX11_alike_129
  · have hres := am_ifn h hres
    refine am_aload_n cx 0 dX11_alike_93 rfl ?_
    obtain ⟨q1, hres⟩ := am_ck_some hres
    refine am_getR cx dX11_alike_94 flX11_46 (am_ke q1) ?_
    refine am_aload cx 1 dX11_alike_97 rfl ?_
    refine am_iload cx 3 dX11_alike_99 rfl ?_
    refine am_iload cx 2 dX11_alike_101 rfl ?_
    obtain ⟨q2, hres⟩ := am_ck_some hres
    obtain ⟨v3, M4, q5, hres⟩ := am_bd_some hres
    refine am_callV0 cx [.inr (.inr (.inl r4)), .inl x7, .inl x6] dX11_alike_103 cvX11_255 (mt0_takeTurned q5) (am_ke q2) ⟨rfl, rfl, Nat.le_of_ble_eq_true rfl, Nat.le_of_ble_eq_true rfl⟩ rfl (Nat.le_of_ble_eq_true rfl) ⟨Nat.le_of_ble_eq_true rfl, Nat.le_of_ble_eq_true rfl⟩ ?_
    refine am_aload_n cx 0 dX11_alike_106 rfl ?_
    obtain ⟨q6, hres⟩ := am_ck_some hres
    refine am_getR cx dX11_alike_107 flX11_42 (am_ke q6) ?_
    refine am_aload_n cx 0 dX11_alike_110 rfl ?_
    refine am_getR cx dX11_alike_111 flX11_46 (am_ke q6) ?_
    obtain ⟨q7, hres⟩ := am_ck_some hres
    obtain ⟨v8, M9, q10, hres⟩ := am_bd_some hres
    refine am_callV1 cx [.inr (.inr (.inl (am_R M4 r0 5)))] dX11_alike_114 cvX11_259 (mt0_equalTo q10) (am_ke q7) ⟨rfl, rfl, Nat.le_of_ble_eq_true rfl, Nat.le_of_ble_eq_true rfl⟩ rfl (Nat.le_of_ble_eq_true rfl) ⟨Nat.le_of_ble_eq_true rfl, Nat.le_of_ble_eq_true rfl⟩ ?_
    refine am_if_eq cx (tgt := 122) dX11_alike_117 (by decide) (fun h => ?_) (fun h => ?_)
    · have hres := am_ifp h hres
      refine am_iincw cx (lv' := [(0, .inr (.inr (.inl r0))), (4, .inr (.inr (.inl r4))), (6, .inl x6), (7, .inl (x7 + (1 : Int32)))]) (w := (1 : Int32)) 3 dX11_alike_122 (by decide) rfl (Nat.le_of_ble_eq_true rfl) rfl ?_
      refine am_goto cx (tgt := 86) dX11_alike_125 (by decide) ?_
      exact hk86 _ _ _ _ _ hres
    · have hres := am_ifn h hres
      refine am_iconst cx (v := (1 : Int32)) dX11_alike_120 (by decide) ?_
      obtain ⟨rfl, rfl⟩ := am_fin hres
      exact am_iret cx dX11_alike_121
set_option maxRecDepth 20000 in
theorem sn11_alike_b86 {l : Launch} {G : am_G} {v : Int32} {M' : am_Mem} {N : Nat}  (cx : am_Ctx l rm11_alike yX11_alike cX11_alike 8 (some .int) (some (.inl v)) M' 0 0 G)  (i : Nat) : ∀ (r0 : Nat) (r4 : Nat) (x6 : Int32) (x7 : Int32) (M : am_Mem), fn11_alike_b86 N  i r0 r4 x6 x7 M = some (v, M') → G 86 [(0, .inr (.inr (.inl r0))), (4, .inr (.inr (.inl r4))), (6, .inl x6), (7, .inl x7)] [] M 0 0 := by
  induction i with
  | zero => intro r0 r4 x6 x7 M hres; exact am_no hres
  | succ i ih => intro r0 r4 x6 x7 M hres; exact sn11_alike_b86B cx ih hres
set_option maxRecDepth 20000 in
theorem sn11_alike_b57 {l : Launch} {G : am_G} {v : Int32} {M' : am_Mem} {N : Nat}  (cx : am_Ctx l rm11_alike yX11_alike cX11_alike 8 (some .int) (some (.inl v)) M' 0 0 G)   {M : am_Mem} (hres : fn11_alike_b57 N   M = some (v, M')) : G 57 [] [] M 0 0 := by
  unfold fn11_alike_b57 at hres
  refine am_iconst cx (v := (0 : Int32)) dX11_alike_57 (by decide) ?_
  obtain ⟨rfl, rfl⟩ := am_fin hres
  exact am_iret cx dX11_alike_58
set_option maxRecDepth 20000 in
theorem sn11_alike_b0 {l : Launch} {G : am_G} {v : Int32} {M' : am_Mem} {N : Nat}  (cx : am_Ctx l rm11_alike yX11_alike cX11_alike 8 (some .int) (some (.inl v)) M' 0 0 G)  {r0 : Nat} {x1 : Int32} {x2 : Int32} {M : am_Mem} (hres : fn11_alike_b0 N  r0 x1 x2 M = some (v, M')) : G 0 [(0, .inr (.inr (.inl r0))), (1, .inl x1), (2, .inl x2)] [] M 0 0 := by
  unfold fn11_alike_b0 at hres
  refine am_aload_n cx 0 dX11_alike_0 rfl ?_
  obtain ⟨q1, hres⟩ := am_ck_some hres
  refine am_getR cx dX11_alike_1 flX11_66 (am_ke q1) ?_
  refine am_iload_n cx 1 dX11_alike_4 rfl ?_
  obtain ⟨q2, hres⟩ := am_ck_some hres
  obtain ⟨v3, M4, q5, hres⟩ := am_bd_some hres
  refine am_callV1 cx [.inl x1] dX11_alike_5 cvX11_115 (mt9_find q5) (am_ke q2) ⟨rfl, rfl, Nat.le_of_ble_eq_true rfl, Nat.le_of_ble_eq_true rfl⟩ rfl (Nat.le_of_ble_eq_true rfl) ⟨Nat.le_of_ble_eq_true rfl, Nat.le_of_ble_eq_true rfl⟩ ?_
  refine am_astore_n cx (lv' := [(0, .inr (.inr (.inl r0))), (1, .inl x1), (2, .inl x2), (3, .inr (.inr (.inl v3)))]) dX11_alike_8 (Nat.le_of_ble_eq_true rfl) rfl ?_
  refine am_aload_n cx 0 dX11_alike_9 rfl ?_
  obtain ⟨q6, hres⟩ := am_ck_some hres
  refine am_getR cx dX11_alike_10 flX11_66 (am_ke q6) ?_
  refine am_iload_n cx 2 dX11_alike_13 rfl ?_
  obtain ⟨q7, hres⟩ := am_ck_some hres
  obtain ⟨v8, M9, q10, hres⟩ := am_bd_some hres
  refine am_callV1 cx [.inl x2] dX11_alike_14 cvX11_115 (mt9_find q10) (am_ke q7) ⟨rfl, rfl, Nat.le_of_ble_eq_true rfl, Nat.le_of_ble_eq_true rfl⟩ rfl (Nat.le_of_ble_eq_true rfl) ⟨Nat.le_of_ble_eq_true rfl, Nat.le_of_ble_eq_true rfl⟩ ?_
  refine am_astore cx (lv' := [(0, .inr (.inr (.inl r0))), (1, .inl x1), (2, .inl x2), (3, .inr (.inr (.inl v3))), (4, .inr (.inr (.inl v8)))]) dX11_alike_17 (Nat.le_of_ble_eq_true rfl) rfl ?_
  refine am_aload_n cx 3 dX11_alike_19 rfl ?_
  refine am_ifnull cx (tgt := 28) dX11_alike_20 (by decide) (fun h => ?_) (fun h => ?_)
  · have hres := am_ifp h hres
    refine am_sub cx [] rfl ?_
    exact sn11_alike_b28 cx  hres
  · have hres := am_ifn h hres
    refine am_aload cx 4 dX11_alike_23 rfl ?_
    refine am_ifnonnull cx (tgt := 30) dX11_alike_25 (by decide) (fun h => ?_) (fun h => ?_)
    · have hres := am_ifn h hres
      refine am_aload_n cx 3 dX11_alike_30 rfl ?_
      obtain ⟨q11, hres⟩ := am_ck_some hres
      refine am_getI cx dX11_alike_31 flX11_123 (am_ke q11) ?_
      refine am_if_ne cx (tgt := 57) dX11_alike_34 (by decide) (fun h => ?_) (fun h => ?_)
      · have hres := am_ifn h hres
        refine am_sub cx [] rfl ?_
        exact sn11_alike_b57 cx  hres
      · have hres := am_ifp h hres
        refine am_aload cx 4 dX11_alike_37 rfl ?_
        obtain ⟨q12, hres⟩ := am_ck_some hres
        refine am_getI cx dX11_alike_39 flX11_123 (am_ke q12) ?_
        refine am_if_ne cx (tgt := 57) dX11_alike_42 (by decide) (fun h => ?_) (fun h => ?_)
        · have hres := am_ifn h hres
          refine am_sub cx [] rfl ?_
          exact sn11_alike_b57 cx  hres
        · have hres := am_ifp h hres
          refine am_aload_n cx 3 dX11_alike_45 rfl ?_
          refine am_getI cx dX11_alike_46 flX11_127 (am_ke q11) ?_
          refine am_aload cx 4 dX11_alike_49 rfl ?_
          refine am_getI cx dX11_alike_51 flX11_127 (am_ke q12) ?_
          refine am_icmp_eq cx (tgt := 59) dX11_alike_54 (by decide) (fun h => ?_) (fun h => ?_)
          · have hres := am_ifp h hres
            refine am_aload_n cx 3 dX11_alike_59 rfl ?_
            obtain ⟨v13, M14, q15, hres⟩ := am_bd_some hres
            refine am_callV1 cx [] dX11_alike_60 cvX11_252 (mt10_commonDivisor q15) (am_ke q11) ⟨rfl, rfl, Nat.le_of_ble_eq_true rfl, Nat.le_of_ble_eq_true rfl⟩ rfl (Nat.le_of_ble_eq_true rfl) ⟨Nat.le_of_ble_eq_true rfl, Nat.le_of_ble_eq_true rfl⟩ ?_
            refine am_istore cx (lv' := [(0, .inr (.inr (.inl r0))), (1, .inl x1), (2, .inl x2), (3, .inr (.inr (.inl v3))), (4, .inr (.inr (.inl v8))), (5, .inl v13)]) dX11_alike_63 (Nat.le_of_ble_eq_true rfl) rfl ?_
            refine am_aload cx 4 dX11_alike_65 rfl ?_
            obtain ⟨q16, hres⟩ := am_ck_some hres
            obtain ⟨v17, M18, q19, hres⟩ := am_bd_some hres
            refine am_callV1 cx [] dX11_alike_67 cvX11_252 (mt10_commonDivisor q19) (am_ke q16) ⟨rfl, rfl, Nat.le_of_ble_eq_true rfl, Nat.le_of_ble_eq_true rfl⟩ rfl (Nat.le_of_ble_eq_true rfl) ⟨Nat.le_of_ble_eq_true rfl, Nat.le_of_ble_eq_true rfl⟩ ?_
            refine am_istore cx (lv' := [(0, .inr (.inr (.inl r0))), (1, .inl x1), (2, .inl x2), (3, .inr (.inr (.inl v3))), (4, .inr (.inr (.inl v8))), (5, .inl v13), (6, .inl v17)]) dX11_alike_70 (Nat.le_of_ble_eq_true rfl) rfl ?_
            refine am_aload_n cx 0 dX11_alike_72 rfl ?_
            obtain ⟨q20, hres⟩ := am_ck_some hres
            refine am_getR cx dX11_alike_73 flX11_42 (am_ke q20) ?_
            refine am_aload_n cx 3 dX11_alike_76 rfl ?_
            refine am_iconst cx (v := (0 : Int32)) dX11_alike_77 (by decide) ?_
            refine am_iload cx 5 dX11_alike_78 rfl ?_
            obtain ⟨q21, hres⟩ := am_ck_some hres
            obtain ⟨v22, M23, q24, hres⟩ := am_bd_some hres
            refine am_callV0 cx [.inr (.inr (.inl v3)), .inl (0 : Int32), .inl v13] dX11_alike_80 cvX11_255 (mt0_takeTurned q24) (am_ke q21) ⟨rfl, rfl, Nat.le_of_ble_eq_true rfl, Nat.le_of_ble_eq_true rfl⟩ rfl (Nat.le_of_ble_eq_true rfl) ⟨Nat.le_of_ble_eq_true rfl, Nat.le_of_ble_eq_true rfl⟩ ?_
            refine am_iconst cx (v := (0 : Int32)) dX11_alike_83 (by decide) ?_
            refine am_istore cx (lv' := [(0, .inr (.inr (.inl r0))), (1, .inl x1), (2, .inl x2), (3, .inr (.inr (.inl v3))), (4, .inr (.inr (.inl v8))), (5, .inl v13), (6, .inl v17), (7, .inl (0 : Int32))]) dX11_alike_84 (Nat.le_of_ble_eq_true rfl) rfl ?_
            refine am_sub cx [0, 4, 6, 7] rfl ?_
            exact sn11_alike_b86 cx  N _ _ _ _ _ hres
          · have hres := am_ifn h hres
            refine am_sub cx [] rfl ?_
            exact sn11_alike_b57 cx  hres
    · have hres := am_ifp h hres
      refine am_sub cx [] rfl ?_
      exact sn11_alike_b28 cx  hres
set_option maxRecDepth 20000 in
theorem mt11_alike {l : Launch} {v : Int32} {M M' : am_Mem} {N : Nat} {r0 : Nat} {x1 : Int32} {x2 : Int32} (h : fn11_alike N M r0 x1 x2 = some (v, M')) : am_Met l yX11_alike cX11_alike 8 (some .int) rm11_alike 0 0 [.inr (.inr (.inl r0)), .inl x1, .inl x2] M (some (.inl v)) M' := am_mk (by decide) (Nat.le_of_ble_eq_true rfl) (fun G cx => (sn11_alike_b0 cx h))
-- SquareCuts.join
def fn11_join_b40 (N : Nat)   (M : am_Mem) : Option (Int32 × am_Mem) :=
  some ((-1 : Int32), M)
def fn11_join_b250 (N : Nat)  (c0 : Nat) (c1 : Nat) (a2 : Int32) (a3 : Int32) (a4 : Int32) (r0 : Nat) (M : am_Mem) : Option (Int32 × am_Mem) :=
  am_ck (am_k M c0 0) (am_bd (fn0_addTimes N M c0 c1 a2 a3 a4) (fun v2 M3 => am_ck (am_k M3 r0 11) (am_bd (fn11_putMade N M3 r0) (fun v6 M7 => some (v6, M7)))))
def fn11_join_b239 (N : Nat)  (c0 : Nat) (c1 : Nat) (a2 : Int32) (a3 : Int32) (r0 : Nat) (x3 : Int32) (j13 : Int64) (M : am_Mem) : Option (Int32 × am_Mem) :=
  if x3 = 0 then fn11_join_b250 N  c0 c1 a2 a3 (0 : Int32) r0 M else fn11_join_b250 N  c0 c1 a2 a3 j13.toInt32 r0 M
def fn11_join_b180 (N : Nat)  (b0 : Int64) (r0 : Nat) (x3 : Int32) (r4 : Nat) (r5 : Nat) (x9 : Int32) (x10 : Int32) (j11 : Int64) (j13 : Int64) (j15 : Int64) (M : am_Mem) : Option (Int32 × am_Mem) :=
  am_bd (fn11_isTooLarge M j15 b0) (fun v1 M2 => if v1 = 0 then am_ck (am_k M2 r0 11) (am_ck (am_k M2 (am_R M2 r0 4) 0) (am_bd (fn0_begin M2 (am_R M2 r0 4) j15.toInt32 b0.toInt32) (fun v6 M7 => am_ck (am_k M7 r0 11) (am_ck (am_k M7 (am_R M7 r0 4) 0) (am_bd (fn0_addTimes N M7 (am_R M7 r0 4) r4 x9 (0 : Int32) (0 : Int32)) (fun v11 M12 => am_ck (am_k M12 r0 11) (if x3 = 0 then fn11_join_b239 N  (am_R M12 r0 4) r5 x10 j11.toInt32 r0 x3 j13 M12 else fn11_join_b239 N  (am_R M12 r0 4) r5 x10 (0 : Int32) r0 x3 j13 M12))))))) else some ((-1 : Int32), M2))
def fn11_join_b158 (N : Nat)  (r0 : Nat) (x3 : Int32) (r4 : Nat) (r5 : Nat) (x9 : Int32) (x10 : Int32) (j11 : Int64) (j13 : Int64) (j15 : Int64) (M : am_Mem) : Option (Int32 × am_Mem) :=
  if x3 = 0 then fn11_join_b180 N  j13 r0 x3 r4 r5 x9 x10 j11 j13 j15 M else am_ck (am_k M r5 10) (fn11_join_b180 N  (j13 + ((am_I M r5 6).toInt64 * x10.toInt64)) r0 x3 r4 r5 x9 x10 j11 j13 j15 M)
def fn11_join_b156 (N : Nat)  (b0 : Int64) (r0 : Nat) (x3 : Int32) (r4 : Nat) (r5 : Nat) (x9 : Int32) (x10 : Int32) (j11 : Int64) (j13 : Int64) (M : am_Mem) : Option (Int32 × am_Mem) :=
  fn11_join_b158 N  r0 x3 r4 r5 x9 x10 j11 j13 b0 M
def fn11_join_b134 (N : Nat)  (r0 : Nat) (x3 : Int32) (r4 : Nat) (r5 : Nat) (x9 : Int32) (x10 : Int32) (j11 : Int64) (j13 : Int64) (M : am_Mem) : Option (Int32 × am_Mem) :=
  if x3 = 0 then am_ck (am_k M r5 10) (fn11_join_b156 N  (j11 + ((am_I M r5 5).toInt64 * x10.toInt64)) r0 x3 r4 r5 x9 x10 j11 j13 M) else fn11_join_b156 N  j11 r0 x3 r4 r5 x9 x10 j11 j13 M
def fn11_join_b122 (N : Nat)  (r0 : Nat) (x3 : Int32) (r4 : Nat) (r5 : Nat) (x9 : Int32) (x10 : Int32) (j11 : Int64) (M : am_Mem) : Option (Int32 × am_Mem) :=
  am_ck (am_k M r4 10) (fn11_join_b134 N  r0 x3 r4 r5 x9 x10 j11 ((am_I M r4 6).toInt64 * x9.toInt64) M)
def fn11_join_b110 (N : Nat)  (r0 : Nat) (x3 : Int32) (r4 : Nat) (r5 : Nat) (x9 : Int32) (x10 : Int32) (M : am_Mem) : Option (Int32 × am_Mem) :=
  am_ck (am_k M r4 10) (fn11_join_b122 N  r0 x3 r4 r5 x9 x10 ((am_I M r4 5).toInt64 * x9.toInt64) M)
def fn11_join_b103 (N : Nat)  (r0 : Nat) (x3 : Int32) (r4 : Nat) (r5 : Nat) (x6 : Int32) (x8 : Int32) (x9 : Int32) (M : am_Mem) : Option (Int32 × am_Mem) :=
  am_ck (decide (¬ x8 = 0)) (fn11_join_b110 N  r0 x3 r4 r5 x9 (x6 / x8) M)
def fn11_join_b80 (N : Nat)  (r0 : Nat) (x3 : Int32) (r4 : Nat) (r5 : Nat) (x6 : Int32) (x7 : Int32) (M : am_Mem) : Option (Int32 × am_Mem) :=
  am_bd (fn11_greatestDivisor N M x6 x7) (fun v1 M2 => if v1 = 0 then some ((-1 : Int32), M2) else am_ck (decide (¬ v1 = 0)) (fn11_join_b103 N  r0 x3 r4 r5 x6 v1 (x7 / v1) M2))
def fn11_join_b78 (N : Nat)  (a0 : Int32) (r0 : Nat) (x3 : Int32) (r4 : Nat) (r5 : Nat) (x6 : Int32) (M : am_Mem) : Option (Int32 × am_Mem) :=
  fn11_join_b80 N  r0 x3 r4 r5 x6 a0 M
def fn11_join_b61 (N : Nat)  (r0 : Nat) (x3 : Int32) (r4 : Nat) (r5 : Nat) (x6 : Int32) (M : am_Mem) : Option (Int32 × am_Mem) :=
  if x3 = 0 then am_ck (am_k M r5 10) (fn11_join_b78 N  (am_I M r5 6) r0 x3 r4 r5 x6 M) else am_ck (am_k M r5 10) (fn11_join_b78 N  (am_I M r5 5) r0 x3 r4 r5 x6 M)
def fn11_join_b59 (N : Nat)  (a0 : Int32) (r0 : Nat) (x3 : Int32) (r4 : Nat) (r5 : Nat) (M : am_Mem) : Option (Int32 × am_Mem) :=
  fn11_join_b61 N  r0 x3 r4 r5 a0 M
def fn11_join_b0 (N : Nat)  (r0 : Nat) (x1 : Int32) (x2 : Int32) (x3 : Int32) (M : am_Mem) : Option (Int32 × am_Mem) :=
  am_ck (am_k M r0 11) (am_bd (fn11_usable M r0 x1) (fun v2 M3 => am_ck (am_k M3 r0 11) (am_bd (fn11_usable M3 r0 x2) (fun v6 M7 => if v2 = 0 then fn11_join_b40 N   M7 else if v6 = 0 then fn11_join_b40 N   M7 else am_ck (am_k M7 v2 10) (am_ck (am_k M7 v6 10) (if ((am_I M7 v2 4) + (am_I M7 v6 4)) ≤ (40 : Int32) then if x3 = 0 then fn11_join_b59 N  (am_I M7 v2 6) r0 x3 v2 v6 M7 else fn11_join_b59 N  (am_I M7 v2 5) r0 x3 v2 v6 M7 else fn11_join_b40 N   M7))))))
def fn11_join (N : Nat) (M : am_Mem) (r0 : Nat) (x1 : Int32) (x2 : Int32) (x3 : Int32) : Option (Int32 × am_Mem) := fn11_join_b0 N r0 x1 x2 x3 M
def rm11_join : Room := { frames := 3, cells := 4, slots := 131, locals := 68 }
set_option maxRecDepth 20000 in
theorem sn11_join_b40 {l : Launch} {G : am_G} {v : Int32} {M' : am_Mem} {N : Nat}  (cx : am_Ctx l rm11_join yX11_join cX11_join 19 (some .int) (some (.inl v)) M' 4 131 G)   {M : am_Mem} (hres : fn11_join_b40 N   M = some (v, M')) : G 40 [] [] M 0 0 := by
  unfold fn11_join_b40 at hres
  refine am_iconst cx (v := (-1 : Int32)) dX11_join_40 (by decide) ?_
  obtain ⟨rfl, rfl⟩ := am_fin hres
  refine am_widen cx (k' := 4) (n' := 131) (Nat.le_of_ble_eq_true rfl) (Nat.le_of_ble_eq_true rfl) ?_
  exact am_iret cx dX11_join_41
set_option maxRecDepth 20000 in
theorem sn11_join_b250 {l : Launch} {G : am_G} {v : Int32} {M' : am_Mem} {N : Nat}  (cx : am_Ctx l rm11_join yX11_join cX11_join 19 (some .int) (some (.inl v)) M' 4 131 G)  {c0 : Nat} {c1 : Nat} {a2 : Int32} {a3 : Int32} {a4 : Int32} {r0 : Nat} {M : am_Mem} (hres : fn11_join_b250 N  c0 c1 a2 a3 a4 r0 M = some (v, M')) : G 250 [(0, .inr (.inr (.inl r0)))] [.inl a4, .inl a3, .inl a2, .inr (.inr (.inl c1)), .inr (.inr (.inl c0))] M 0 0 := by
  unfold fn11_join_b250 at hres
  obtain ⟨q1, hres⟩ := am_ck_some hres
  obtain ⟨v2, M3, q4, hres⟩ := am_bd_some hres
  refine am_callV0 cx [.inr (.inr (.inl c1)), .inl a2, .inl a3, .inl a4] dX11_join_250 cvX11_277 (mt0_addTimes q4) (am_ke q1) ⟨rfl, rfl, Nat.le_of_ble_eq_true rfl, Nat.le_of_ble_eq_true rfl⟩ rfl (Nat.le_of_ble_eq_true rfl) ⟨Nat.le_of_ble_eq_true rfl, Nat.le_of_ble_eq_true rfl⟩ ?_
  refine am_aload_n cx 0 dX11_join_253 rfl ?_
  obtain ⟨q5, hres⟩ := am_ck_some hres
  obtain ⟨v6, M7, q8, hres⟩ := am_bd_some hres
  refine am_callV1 cx [] dX11_join_254 cvX11_281 (mt11_putMade q8) (am_ke q5) ⟨rfl, rfl, Nat.le_of_ble_eq_true rfl, Nat.le_of_ble_eq_true rfl⟩ rfl (Nat.le_of_ble_eq_true rfl) ⟨Nat.le_of_ble_eq_true rfl, Nat.le_of_ble_eq_true rfl⟩ ?_
  obtain ⟨rfl, rfl⟩ := am_fin hres
  exact am_iret cx dX11_join_257
set_option maxRecDepth 20000 in
theorem sn11_join_b239 {l : Launch} {G : am_G} {v : Int32} {M' : am_Mem} {N : Nat}  (cx : am_Ctx l rm11_join yX11_join cX11_join 19 (some .int) (some (.inl v)) M' 4 131 G)  {c0 : Nat} {c1 : Nat} {a2 : Int32} {a3 : Int32} {r0 : Nat} {x3 : Int32} {j13 : Int64} {M : am_Mem} (hres : fn11_join_b239 N  c0 c1 a2 a3 r0 x3 j13 M = some (v, M')) : G 239 [(0, .inr (.inr (.inl r0))), (3, .inl x3), (13, .inr (.inl j13))] [.inl a3, .inl a2, .inr (.inr (.inl c1)), .inr (.inr (.inl c0))] M 0 0 := by
  unfold fn11_join_b239 at hres
  refine am_iload_n cx 1 dX11_join_239 rfl ?_
  refine am_if_eq cx (tgt := 249) dX11_join_240 (by decide) (fun h => ?_) (fun h => ?_)
  · have hres := am_ifp h hres
    refine am_iconst cx (v := (0 : Int32)) dX11_join_249 (by decide) ?_
    refine am_sub cx [0] rfl ?_
    exact sn11_join_b250 cx  hres
  · have hres := am_ifn h hres
    refine am_lload cx 2 dX11_join_243 rfl ?_
    refine am_l2i cx dX11_join_245 ?_
    refine am_goto cx (tgt := 250) dX11_join_246 (by decide) ?_
    refine am_sub cx [0] rfl ?_
    exact sn11_join_b250 cx  hres
set_option maxRecDepth 20000 in
theorem sn11_join_b180 {l : Launch} {G : am_G} {v : Int32} {M' : am_Mem} {N : Nat}  (cx : am_Ctx l rm11_join yX11_join cX11_join 19 (some .int) (some (.inl v)) M' 4 131 G)  {b0 : Int64} {r0 : Nat} {x3 : Int32} {r4 : Nat} {r5 : Nat} {x9 : Int32} {x10 : Int32} {j11 : Int64} {j13 : Int64} {j15 : Int64} {M : am_Mem} (hres : fn11_join_b180 N  b0 r0 x3 r4 r5 x9 x10 j11 j13 j15 M = some (v, M')) : G 180 [(0, .inr (.inr (.inl r0))), (3, .inl x3), (4, .inr (.inr (.inl r4))), (5, .inr (.inr (.inl r5))), (9, .inl x9), (10, .inl x10), (11, .inr (.inl j11)), (13, .inr (.inl j13)), (15, .inr (.inl j15))] [.inr (.inl b0)] M 0 0 := by
  unfold fn11_join_b180 at hres
  refine am_lstore cx (lv' := [(0, .inr (.inr (.inl r0))), (3, .inl x3), (4, .inr (.inr (.inl r4))), (5, .inr (.inr (.inl r5))), (9, .inl x9), (10, .inl x10), (11, .inr (.inl j11)), (13, .inr (.inl j13)), (15, .inr (.inl j15)), (17, .inr (.inl b0))]) dX11_join_180 (Nat.le_of_ble_eq_true rfl) rfl ?_
  refine am_lload cx 8 dX11_join_182 rfl ?_
  refine am_lload cx 9 dX11_join_184 rfl ?_
  obtain ⟨v1, M2, q3, hres⟩ := am_bd_some hres
  refine am_callS1 cx [.inr (.inl j15), .inr (.inl b0)] dX11_join_186 csX11_269 (mt11_isTooLarge q3)  ⟨rfl, rfl, Nat.le_of_ble_eq_true rfl, Nat.le_of_ble_eq_true rfl⟩ rfl (Nat.le_of_ble_eq_true rfl) ⟨Nat.le_of_ble_eq_true rfl, Nat.le_of_ble_eq_true rfl⟩ ?_
  refine am_if_eq cx (tgt := 194) dX11_join_189 (by decide) (fun h => ?_) (fun h => ?_)
  · have hres := am_ifp h hres
    refine am_aload_n cx 0 dX11_join_194 rfl ?_
    obtain ⟨q4, hres⟩ := am_ck_some hres
    refine am_getR cx dX11_join_195 flX11_42 (am_ke q4) ?_
    refine am_lload cx 8 dX11_join_198 rfl ?_
    refine am_l2i cx dX11_join_200 ?_
    refine am_lload cx 9 dX11_join_201 rfl ?_
    refine am_l2i cx dX11_join_203 ?_
    obtain ⟨q5, hres⟩ := am_ck_some hres
    obtain ⟨v6, M7, q8, hres⟩ := am_bd_some hres
    refine am_callV0 cx [.inl j15.toInt32, .inl b0.toInt32] dX11_join_204 cvX11_273 (mt0_begin q8) (am_ke q5) ⟨rfl, rfl, Nat.le_of_ble_eq_true rfl, Nat.le_of_ble_eq_true rfl⟩ rfl (Nat.le_of_ble_eq_true rfl) ⟨Nat.le_of_ble_eq_true rfl, Nat.le_of_ble_eq_true rfl⟩ ?_
    refine am_aload_n cx 0 dX11_join_207 rfl ?_
    obtain ⟨q9, hres⟩ := am_ck_some hres
    refine am_getR cx dX11_join_208 flX11_42 (am_ke q9) ?_
    refine am_aload cx 2 dX11_join_211 rfl ?_
    refine am_iload cx 4 dX11_join_213 rfl ?_
    refine am_iconst cx (v := (0 : Int32)) dX11_join_215 (by decide) ?_
    refine am_iconst cx (v := (0 : Int32)) dX11_join_216 (by decide) ?_
    obtain ⟨q10, hres⟩ := am_ck_some hres
    obtain ⟨v11, M12, q13, hres⟩ := am_bd_some hres
    refine am_callV0 cx [.inr (.inr (.inl r4)), .inl x9, .inl (0 : Int32), .inl (0 : Int32)] dX11_join_217 cvX11_277 (mt0_addTimes q13) (am_ke q10) ⟨rfl, rfl, Nat.le_of_ble_eq_true rfl, Nat.le_of_ble_eq_true rfl⟩ rfl (Nat.le_of_ble_eq_true rfl) ⟨Nat.le_of_ble_eq_true rfl, Nat.le_of_ble_eq_true rfl⟩ ?_
    refine am_aload_n cx 0 dX11_join_220 rfl ?_
    obtain ⟨q14, hres⟩ := am_ck_some hres
    refine am_getR cx dX11_join_221 flX11_42 (am_ke q14) ?_
    refine am_aload cx 3 dX11_join_224 rfl ?_
    refine am_iload cx 5 dX11_join_226 rfl ?_
    refine am_iload_n cx 1 dX11_join_228 rfl ?_
    refine am_if_eq cx (tgt := 236) dX11_join_229 (by decide) (fun h => ?_) (fun h => ?_)
    · have hres := am_ifp h hres
      refine am_lload cx 6 dX11_join_236 rfl ?_
      refine am_l2i cx dX11_join_238 ?_
      refine am_sub cx [0, 1, 7] rfl ?_
      exact sn11_join_b239 cx  hres
    · have hres := am_ifn h hres
      refine am_iconst cx (v := (0 : Int32)) dX11_join_232 (by decide) ?_
      refine am_goto cx (tgt := 239) dX11_join_233 (by decide) ?_
      refine am_sub cx [0, 1, 7] rfl ?_
      exact sn11_join_b239 cx  hres
  · have hres := am_ifn h hres
    refine am_iconst cx (v := (-1 : Int32)) dX11_join_192 (by decide) ?_
    obtain ⟨rfl, rfl⟩ := am_fin hres
    refine am_widen cx (k' := 4) (n' := 131) (Nat.le_of_ble_eq_true rfl) (Nat.le_of_ble_eq_true rfl) ?_
    exact am_iret cx dX11_join_193
set_option maxRecDepth 20000 in
theorem sn11_join_b158 {l : Launch} {G : am_G} {v : Int32} {M' : am_Mem} {N : Nat}  (cx : am_Ctx l rm11_join yX11_join cX11_join 19 (some .int) (some (.inl v)) M' 4 131 G)  {r0 : Nat} {x3 : Int32} {r4 : Nat} {r5 : Nat} {x9 : Int32} {x10 : Int32} {j11 : Int64} {j13 : Int64} {j15 : Int64} {M : am_Mem} (hres : fn11_join_b158 N  r0 x3 r4 r5 x9 x10 j11 j13 j15 M = some (v, M')) : G 158 [(0, .inr (.inr (.inl r0))), (3, .inl x3), (4, .inr (.inr (.inl r4))), (5, .inr (.inr (.inl r5))), (9, .inl x9), (10, .inl x10), (11, .inr (.inl j11)), (13, .inr (.inl j13)), (15, .inr (.inl j15))] [] M 0 0 := by
  unfold fn11_join_b158 at hres
  refine am_iload_n cx 1 dX11_join_158 rfl ?_
  refine am_if_eq cx (tgt := 178) dX11_join_159 (by decide) (fun h => ?_) (fun h => ?_)
  · have hres := am_ifp h hres
    refine am_lload cx 7 dX11_join_178 rfl ?_
    exact sn11_join_b180 cx  hres
  · have hres := am_ifn h hres
    refine am_lload cx 7 dX11_join_162 rfl ?_
    refine am_aload cx 3 dX11_join_164 rfl ?_
    obtain ⟨q1, hres⟩ := am_ck_some hres
    refine am_getI cx dX11_join_166 flX11_133 (am_ke q1) ?_
    refine am_i2l cx dX11_join_169 ?_
    refine am_iload cx 5 dX11_join_170 rfl ?_
    refine am_i2l cx dX11_join_172 ?_
    refine am_lmul cx dX11_join_173 ?_
    refine am_ladd cx dX11_join_174 ?_
    refine am_goto cx (tgt := 180) dX11_join_175 (by decide) ?_
    exact sn11_join_b180 cx  hres
set_option maxRecDepth 20000 in
theorem sn11_join_b156 {l : Launch} {G : am_G} {v : Int32} {M' : am_Mem} {N : Nat}  (cx : am_Ctx l rm11_join yX11_join cX11_join 19 (some .int) (some (.inl v)) M' 4 131 G)  {b0 : Int64} {r0 : Nat} {x3 : Int32} {r4 : Nat} {r5 : Nat} {x9 : Int32} {x10 : Int32} {j11 : Int64} {j13 : Int64} {M : am_Mem} (hres : fn11_join_b156 N  b0 r0 x3 r4 r5 x9 x10 j11 j13 M = some (v, M')) : G 156 [(0, .inr (.inr (.inl r0))), (3, .inl x3), (4, .inr (.inr (.inl r4))), (5, .inr (.inr (.inl r5))), (9, .inl x9), (10, .inl x10), (11, .inr (.inl j11)), (13, .inr (.inl j13))] [.inr (.inl b0)] M 0 0 := by
  unfold fn11_join_b156 at hres
  refine am_lstore cx (lv' := [(0, .inr (.inr (.inl r0))), (3, .inl x3), (4, .inr (.inr (.inl r4))), (5, .inr (.inr (.inl r5))), (9, .inl x9), (10, .inl x10), (11, .inr (.inl j11)), (13, .inr (.inl j13)), (15, .inr (.inl b0))]) dX11_join_156 (Nat.le_of_ble_eq_true rfl) rfl ?_
  exact sn11_join_b158 cx  hres
set_option maxRecDepth 20000 in
theorem sn11_join_b134 {l : Launch} {G : am_G} {v : Int32} {M' : am_Mem} {N : Nat}  (cx : am_Ctx l rm11_join yX11_join cX11_join 19 (some .int) (some (.inl v)) M' 4 131 G)  {r0 : Nat} {x3 : Int32} {r4 : Nat} {r5 : Nat} {x9 : Int32} {x10 : Int32} {j11 : Int64} {j13 : Int64} {M : am_Mem} (hres : fn11_join_b134 N  r0 x3 r4 r5 x9 x10 j11 j13 M = some (v, M')) : G 134 [(0, .inr (.inr (.inl r0))), (3, .inl x3), (4, .inr (.inr (.inl r4))), (5, .inr (.inr (.inl r5))), (9, .inl x9), (10, .inl x10), (11, .inr (.inl j11)), (13, .inr (.inl j13))] [] M 0 0 := by
  unfold fn11_join_b134 at hres
  refine am_iload_n cx 1 dX11_join_134 rfl ?_
  refine am_if_eq cx (tgt := 143) dX11_join_135 (by decide) (fun h => ?_) (fun h => ?_)
  · have hres := am_ifp h hres
    refine am_lload cx 6 dX11_join_143 rfl ?_
    refine am_aload cx 3 dX11_join_145 rfl ?_
    obtain ⟨q1, hres⟩ := am_ck_some hres
    refine am_getI cx dX11_join_147 flX11_130 (am_ke q1) ?_
    refine am_i2l cx dX11_join_150 ?_
    refine am_iload cx 5 dX11_join_151 rfl ?_
    refine am_i2l cx dX11_join_153 ?_
    refine am_lmul cx dX11_join_154 ?_
    refine am_ladd cx dX11_join_155 ?_
    exact sn11_join_b156 cx  hres
  · have hres := am_ifn h hres
    refine am_lload cx 6 dX11_join_138 rfl ?_
    refine am_goto cx (tgt := 156) dX11_join_140 (by decide) ?_
    exact sn11_join_b156 cx  hres
set_option maxRecDepth 20000 in
theorem sn11_join_b122 {l : Launch} {G : am_G} {v : Int32} {M' : am_Mem} {N : Nat}  (cx : am_Ctx l rm11_join yX11_join cX11_join 19 (some .int) (some (.inl v)) M' 4 131 G)  {r0 : Nat} {x3 : Int32} {r4 : Nat} {r5 : Nat} {x9 : Int32} {x10 : Int32} {j11 : Int64} {M : am_Mem} (hres : fn11_join_b122 N  r0 x3 r4 r5 x9 x10 j11 M = some (v, M')) : G 122 [(0, .inr (.inr (.inl r0))), (3, .inl x3), (4, .inr (.inr (.inl r4))), (5, .inr (.inr (.inl r5))), (9, .inl x9), (10, .inl x10), (11, .inr (.inl j11))] [] M 0 0 := by
  unfold fn11_join_b122 at hres
  refine am_aload cx 2 dX11_join_122 rfl ?_
  obtain ⟨q1, hres⟩ := am_ck_some hres
  refine am_getI cx dX11_join_124 flX11_133 (am_ke q1) ?_
  refine am_i2l cx dX11_join_127 ?_
  refine am_iload cx 4 dX11_join_128 rfl ?_
  refine am_i2l cx dX11_join_130 ?_
  refine am_lmul cx dX11_join_131 ?_
  refine am_lstore cx (lv' := [(0, .inr (.inr (.inl r0))), (3, .inl x3), (4, .inr (.inr (.inl r4))), (5, .inr (.inr (.inl r5))), (9, .inl x9), (10, .inl x10), (11, .inr (.inl j11)), (13, .inr (.inl ((am_I M r4 6).toInt64 * x9.toInt64)))]) dX11_join_132 (Nat.le_of_ble_eq_true rfl) rfl ?_
  exact sn11_join_b134 cx  hres
set_option maxRecDepth 20000 in
theorem sn11_join_b110 {l : Launch} {G : am_G} {v : Int32} {M' : am_Mem} {N : Nat}  (cx : am_Ctx l rm11_join yX11_join cX11_join 19 (some .int) (some (.inl v)) M' 4 131 G)  {r0 : Nat} {x3 : Int32} {r4 : Nat} {r5 : Nat} {x9 : Int32} {x10 : Int32} {M : am_Mem} (hres : fn11_join_b110 N  r0 x3 r4 r5 x9 x10 M = some (v, M')) : G 110 [(0, .inr (.inr (.inl r0))), (3, .inl x3), (4, .inr (.inr (.inl r4))), (5, .inr (.inr (.inl r5))), (9, .inl x9), (10, .inl x10)] [] M 0 0 := by
  unfold fn11_join_b110 at hres
  refine am_aload cx 2 dX11_join_110 rfl ?_
  obtain ⟨q1, hres⟩ := am_ck_some hres
  refine am_getI cx dX11_join_112 flX11_130 (am_ke q1) ?_
  refine am_i2l cx dX11_join_115 ?_
  refine am_iload cx 4 dX11_join_116 rfl ?_
  refine am_i2l cx dX11_join_118 ?_
  refine am_lmul cx dX11_join_119 ?_
  refine am_lstore cx (lv' := [(0, .inr (.inr (.inl r0))), (3, .inl x3), (4, .inr (.inr (.inl r4))), (5, .inr (.inr (.inl r5))), (9, .inl x9), (10, .inl x10), (11, .inr (.inl ((am_I M r4 5).toInt64 * x9.toInt64)))]) dX11_join_120 (Nat.le_of_ble_eq_true rfl) rfl ?_
  exact sn11_join_b122 cx  hres
set_option maxRecDepth 20000 in
theorem sn11_join_b103 {l : Launch} {G : am_G} {v : Int32} {M' : am_Mem} {N : Nat}  (cx : am_Ctx l rm11_join yX11_join cX11_join 19 (some .int) (some (.inl v)) M' 4 131 G)  {r0 : Nat} {x3 : Int32} {r4 : Nat} {r5 : Nat} {x6 : Int32} {x8 : Int32} {x9 : Int32} {M : am_Mem} (hres : fn11_join_b103 N  r0 x3 r4 r5 x6 x8 x9 M = some (v, M')) : G 103 [(0, .inr (.inr (.inl r0))), (3, .inl x3), (4, .inr (.inr (.inl r4))), (5, .inr (.inr (.inl r5))), (6, .inl x6), (8, .inl x8), (9, .inl x9)] [] M 0 0 := by
  unfold fn11_join_b103 at hres
  refine am_iload cx 4 dX11_join_103 rfl ?_
  refine am_iload cx 5 dX11_join_105 rfl ?_
  obtain ⟨q1, hres⟩ := am_ck_some hres
  refine am_idiv cx dX11_join_107 (of_decide_eq_true q1) ?_
  refine am_istore cx (lv' := [(0, .inr (.inr (.inl r0))), (3, .inl x3), (4, .inr (.inr (.inl r4))), (5, .inr (.inr (.inl r5))), (6, .inl x6), (8, .inl x8), (9, .inl x9), (10, .inl (x6 / x8))]) dX11_join_108 (Nat.le_of_ble_eq_true rfl) rfl ?_
  refine am_sub cx [0, 1, 2, 3, 6, 7] rfl ?_
  exact sn11_join_b110 cx  hres
set_option maxRecDepth 20000 in
theorem sn11_join_b80 {l : Launch} {G : am_G} {v : Int32} {M' : am_Mem} {N : Nat}  (cx : am_Ctx l rm11_join yX11_join cX11_join 19 (some .int) (some (.inl v)) M' 4 131 G)  {r0 : Nat} {x3 : Int32} {r4 : Nat} {r5 : Nat} {x6 : Int32} {x7 : Int32} {M : am_Mem} (hres : fn11_join_b80 N  r0 x3 r4 r5 x6 x7 M = some (v, M')) : G 80 [(0, .inr (.inr (.inl r0))), (3, .inl x3), (4, .inr (.inr (.inl r4))), (5, .inr (.inr (.inl r5))), (6, .inl x6), (7, .inl x7)] [] M 0 0 := by
  unfold fn11_join_b80 at hres
  refine am_iload cx 4 dX11_join_80 rfl ?_
  refine am_iload cx 5 dX11_join_82 rfl ?_
  obtain ⟨v1, M2, q3, hres⟩ := am_bd_some hres
  refine am_callS1 cx [.inl x6, .inl x7] dX11_join_84 csX11_266 (mt11_greatestDivisor q3)  ⟨rfl, rfl, Nat.le_of_ble_eq_true rfl, Nat.le_of_ble_eq_true rfl⟩ rfl (Nat.le_of_ble_eq_true rfl) ⟨Nat.le_of_ble_eq_true rfl, Nat.le_of_ble_eq_true rfl⟩ ?_
  refine am_istore cx (lv' := [(0, .inr (.inr (.inl r0))), (3, .inl x3), (4, .inr (.inr (.inl r4))), (5, .inr (.inr (.inl r5))), (6, .inl x6), (7, .inl x7), (8, .inl v1)]) dX11_join_87 (Nat.le_of_ble_eq_true rfl) rfl ?_
  refine am_iload cx 6 dX11_join_89 rfl ?_
  refine am_if_ne cx (tgt := 96) dX11_join_91 (by decide) (fun h => ?_) (fun h => ?_)
  · have hres := am_ifn h hres
    refine am_iload cx 5 dX11_join_96 rfl ?_
    refine am_iload cx 6 dX11_join_98 rfl ?_
    obtain ⟨q4, hres⟩ := am_ck_some hres
    refine am_idiv cx dX11_join_100 (of_decide_eq_true q4) ?_
    refine am_istore cx (lv' := [(0, .inr (.inr (.inl r0))), (3, .inl x3), (4, .inr (.inr (.inl r4))), (5, .inr (.inr (.inl r5))), (6, .inl x6), (7, .inl x7), (8, .inl v1), (9, .inl (x7 / v1))]) dX11_join_101 (Nat.le_of_ble_eq_true rfl) rfl ?_
    refine am_sub cx [0, 1, 2, 3, 4, 6, 7] rfl ?_
    exact sn11_join_b103 cx  hres
  · have hres := am_ifp h hres
    refine am_iconst cx (v := (-1 : Int32)) dX11_join_94 (by decide) ?_
    obtain ⟨rfl, rfl⟩ := am_fin hres
    refine am_widen cx (k' := 4) (n' := 131) (Nat.le_of_ble_eq_true rfl) (Nat.le_of_ble_eq_true rfl) ?_
    exact am_iret cx dX11_join_95
set_option maxRecDepth 20000 in
theorem sn11_join_b78 {l : Launch} {G : am_G} {v : Int32} {M' : am_Mem} {N : Nat}  (cx : am_Ctx l rm11_join yX11_join cX11_join 19 (some .int) (some (.inl v)) M' 4 131 G)  {a0 : Int32} {r0 : Nat} {x3 : Int32} {r4 : Nat} {r5 : Nat} {x6 : Int32} {M : am_Mem} (hres : fn11_join_b78 N  a0 r0 x3 r4 r5 x6 M = some (v, M')) : G 78 [(0, .inr (.inr (.inl r0))), (3, .inl x3), (4, .inr (.inr (.inl r4))), (5, .inr (.inr (.inl r5))), (6, .inl x6)] [.inl a0] M 0 0 := by
  unfold fn11_join_b78 at hres
  refine am_istore cx (lv' := [(0, .inr (.inr (.inl r0))), (3, .inl x3), (4, .inr (.inr (.inl r4))), (5, .inr (.inr (.inl r5))), (6, .inl x6), (7, .inl a0)]) dX11_join_78 (Nat.le_of_ble_eq_true rfl) rfl ?_
  exact sn11_join_b80 cx  hres
set_option maxRecDepth 20000 in
theorem sn11_join_b61 {l : Launch} {G : am_G} {v : Int32} {M' : am_Mem} {N : Nat}  (cx : am_Ctx l rm11_join yX11_join cX11_join 19 (some .int) (some (.inl v)) M' 4 131 G)  {r0 : Nat} {x3 : Int32} {r4 : Nat} {r5 : Nat} {x6 : Int32} {M : am_Mem} (hres : fn11_join_b61 N  r0 x3 r4 r5 x6 M = some (v, M')) : G 61 [(0, .inr (.inr (.inl r0))), (3, .inl x3), (4, .inr (.inr (.inl r4))), (5, .inr (.inr (.inl r5))), (6, .inl x6)] [] M 0 0 := by
  unfold fn11_join_b61 at hres
  refine am_iload_n cx 1 dX11_join_61 rfl ?_
  refine am_if_eq cx (tgt := 73) dX11_join_62 (by decide) (fun h => ?_) (fun h => ?_)
  · have hres := am_ifp h hres
    refine am_aload cx 3 dX11_join_73 rfl ?_
    obtain ⟨q1, hres⟩ := am_ck_some hres
    refine am_getI cx dX11_join_75 flX11_133 (am_ke q1) ?_
    exact sn11_join_b78 cx  hres
  · have hres := am_ifn h hres
    refine am_aload cx 3 dX11_join_65 rfl ?_
    obtain ⟨q2, hres⟩ := am_ck_some hres
    refine am_getI cx dX11_join_67 flX11_130 (am_ke q2) ?_
    refine am_goto cx (tgt := 78) dX11_join_70 (by decide) ?_
    exact sn11_join_b78 cx  hres
set_option maxRecDepth 20000 in
theorem sn11_join_b59 {l : Launch} {G : am_G} {v : Int32} {M' : am_Mem} {N : Nat}  (cx : am_Ctx l rm11_join yX11_join cX11_join 19 (some .int) (some (.inl v)) M' 4 131 G)  {a0 : Int32} {r0 : Nat} {x3 : Int32} {r4 : Nat} {r5 : Nat} {M : am_Mem} (hres : fn11_join_b59 N  a0 r0 x3 r4 r5 M = some (v, M')) : G 59 [(0, .inr (.inr (.inl r0))), (3, .inl x3), (4, .inr (.inr (.inl r4))), (5, .inr (.inr (.inl r5)))] [.inl a0] M 0 0 := by
  unfold fn11_join_b59 at hres
  refine am_istore cx (lv' := [(0, .inr (.inr (.inl r0))), (3, .inl x3), (4, .inr (.inr (.inl r4))), (5, .inr (.inr (.inl r5))), (6, .inl a0)]) dX11_join_59 (Nat.le_of_ble_eq_true rfl) rfl ?_
  exact sn11_join_b61 cx  hres
set_option maxRecDepth 20000 in
theorem sn11_join_b0 {l : Launch} {G : am_G} {v : Int32} {M' : am_Mem} {N : Nat}  (cx : am_Ctx l rm11_join yX11_join cX11_join 19 (some .int) (some (.inl v)) M' 4 131 G)  {r0 : Nat} {x1 : Int32} {x2 : Int32} {x3 : Int32} {M : am_Mem} (hres : fn11_join_b0 N  r0 x1 x2 x3 M = some (v, M')) : G 0 [(0, .inr (.inr (.inl r0))), (1, .inl x1), (2, .inl x2), (3, .inl x3)] [] M 0 0 := by
  unfold fn11_join_b0 at hres
  refine am_aload_n cx 0 dX11_join_0 rfl ?_
  refine am_iload_n cx 1 dX11_join_1 rfl ?_
  obtain ⟨q1, hres⟩ := am_ck_some hres
  obtain ⟨v2, M3, q4, hres⟩ := am_bd_some hres
  refine am_callV1 cx [.inl x1] dX11_join_2 cvX11_263 (mt11_usable q4) (am_ke q1) ⟨rfl, rfl, Nat.le_of_ble_eq_true rfl, Nat.le_of_ble_eq_true rfl⟩ rfl (Nat.le_of_ble_eq_true rfl) ⟨Nat.le_of_ble_eq_true rfl, Nat.le_of_ble_eq_true rfl⟩ ?_
  refine am_astore cx (lv' := [(0, .inr (.inr (.inl r0))), (1, .inl x1), (2, .inl x2), (3, .inl x3), (4, .inr (.inr (.inl v2)))]) dX11_join_5 (Nat.le_of_ble_eq_true rfl) rfl ?_
  refine am_aload_n cx 0 dX11_join_7 rfl ?_
  refine am_iload_n cx 2 dX11_join_8 rfl ?_
  obtain ⟨q5, hres⟩ := am_ck_some hres
  obtain ⟨v6, M7, q8, hres⟩ := am_bd_some hres
  refine am_callV1 cx [.inl x2] dX11_join_9 cvX11_263 (mt11_usable q8) (am_ke q5) ⟨rfl, rfl, Nat.le_of_ble_eq_true rfl, Nat.le_of_ble_eq_true rfl⟩ rfl (Nat.le_of_ble_eq_true rfl) ⟨Nat.le_of_ble_eq_true rfl, Nat.le_of_ble_eq_true rfl⟩ ?_
  refine am_astore cx (lv' := [(0, .inr (.inr (.inl r0))), (1, .inl x1), (2, .inl x2), (3, .inl x3), (4, .inr (.inr (.inl v2))), (5, .inr (.inr (.inl v6)))]) dX11_join_12 (Nat.le_of_ble_eq_true rfl) rfl ?_
  refine am_aload cx 4 dX11_join_14 rfl ?_
  refine am_ifnull cx (tgt := 40) dX11_join_16 (by decide) (fun h => ?_) (fun h => ?_)
  · have hres := am_ifp h hres
    refine am_sub cx [] rfl ?_
    exact sn11_join_b40 cx  hres
  · have hres := am_ifn h hres
    refine am_aload cx 5 dX11_join_19 rfl ?_
    refine am_ifnull cx (tgt := 40) dX11_join_21 (by decide) (fun h => ?_) (fun h => ?_)
    · have hres := am_ifp h hres
      refine am_sub cx [] rfl ?_
      exact sn11_join_b40 cx  hres
    · have hres := am_ifn h hres
      refine am_aload cx 4 dX11_join_24 rfl ?_
      obtain ⟨q9, hres⟩ := am_ck_some hres
      refine am_getI cx dX11_join_26 flX11_127 (am_ke q9) ?_
      refine am_aload cx 5 dX11_join_29 rfl ?_
      obtain ⟨q10, hres⟩ := am_ck_some hres
      refine am_getI cx dX11_join_31 flX11_127 (am_ke q10) ?_
      refine am_iadd cx dX11_join_34 ?_
      refine am_bipush cx (v := (40 : Int32)) dX11_join_35 (by decide) ?_
      refine am_icmp_le cx (tgt := 42) dX11_join_37 (by decide) (fun h => ?_) (fun h => ?_)
      · have hres := am_ifp h hres
        refine am_iload_n cx 3 dX11_join_42 rfl ?_
        refine am_if_eq cx (tgt := 54) dX11_join_43 (by decide) (fun h => ?_) (fun h => ?_)
        · have hres := am_ifp h hres
          refine am_aload cx 4 dX11_join_54 rfl ?_
          refine am_getI cx dX11_join_56 flX11_133 (am_ke q9) ?_
          refine am_sub cx [0, 3, 4, 5] rfl ?_
          exact sn11_join_b59 cx  hres
        · have hres := am_ifn h hres
          refine am_aload cx 4 dX11_join_46 rfl ?_
          refine am_getI cx dX11_join_48 flX11_130 (am_ke q9) ?_
          refine am_goto cx (tgt := 59) dX11_join_51 (by decide) ?_
          refine am_sub cx [0, 3, 4, 5] rfl ?_
          exact sn11_join_b59 cx  hres
      · have hres := am_ifn h hres
        refine am_sub cx [] rfl ?_
        exact sn11_join_b40 cx  hres
set_option maxRecDepth 20000 in
theorem mt11_join {l : Launch} {v : Int32} {M M' : am_Mem} {N : Nat} {r0 : Nat} {x1 : Int32} {x2 : Int32} {x3 : Int32} (h : fn11_join N M r0 x1 x2 x3 = some (v, M')) : am_Met l yX11_join cX11_join 19 (some .int) rm11_join 4 131 [.inr (.inr (.inl r0)), .inl x1, .inl x2, .inl x3] M (some (.inl v)) M' := am_mk (by decide) (Nat.le_of_ble_eq_true rfl) (fun G cx => (sn11_join_b0 cx h))
-- SquareCuts.grow
def fn11_grow_b21 (N : Nat)   (M : am_Mem) : Option (Int32 × am_Mem) :=
  some ((-1 : Int32), M)
def fn11_grow_b143 (N : Nat)  (r0 : Nat) (M : am_Mem) : Option (Int32 × am_Mem) :=
  am_ck (am_k M r0 11) (am_bd (fn11_putMade N M r0) (fun v2 M3 => some (v2, M3)))
def fn11_grow_b68 (N : Nat)  (r0 : Nat) (x2 : Int32) (r3 : Nat) (j6 : Int64) (j8 : Int64) (M : am_Mem) : Option (Int32 × am_Mem) :=
  am_bd (fn11_isTooLarge M j6 j8) (fun v1 M2 => if v1 = 0 then am_ck (am_k M2 r0 11) (am_ck (am_k M2 (am_R M2 r0 4) 0) (am_bd (fn0_begin M2 (am_R M2 r0 4) j6.toInt32 j8.toInt32) (fun v6 M7 => am_ck (am_k M7 r0 11) (am_ck (am_k M7 (am_R M7 r0 4) 0) (am_bd (fn0_addTimes N M7 (am_R M7 r0 4) r3 (1 : Int32) (0 : Int32) (0 : Int32)) (fun v11 M12 => if x2 = 0 then am_ck (am_k M12 r0 11) (am_ck (am_k M12 r3 10) (am_ck (am_k M12 (am_R M12 r0 4) 0) (am_bd (fn0_add M12 (am_R M12 r0 4) (am_I M12 r3 5) (0 : Int32) (am_I M12 r3 6)) (fun v17 M18 => fn11_grow_b143 N  r0 M18)))) else am_ck (am_k M12 r0 11) (am_ck (am_k M12 r3 10) (am_ck (am_k M12 (am_R M12 r0 4) 0) (am_bd (fn0_add M12 (am_R M12 r0 4) (0 : Int32) (am_I M12 r3 6) (am_I M12 r3 5)) (fun v23 M24 => fn11_grow_b143 N  r0 M24)))))))))) else some ((-1 : Int32), M2))
def fn11_grow_b66 (N : Nat)  (b0 : Int64) (r0 : Nat) (x2 : Int32) (r3 : Nat) (j6 : Int64) (M : am_Mem) : Option (Int32 × am_Mem) :=
  fn11_grow_b68 N  r0 x2 r3 j6 b0 M
def fn11_grow_b50 (N : Nat)  (b0 : Int64) (r0 : Nat) (x2 : Int32) (r3 : Nat) (j4 : Int64) (M : am_Mem) : Option (Int32 × am_Mem) :=
  if x2 = 0 then am_ck (am_k M r3 10) (fn11_grow_b66 N  ((am_I M r3 6).toInt64) r0 x2 r3 b0 M) else fn11_grow_b66 N  j4 r0 x2 r3 b0 M
def fn11_grow_b36 (N : Nat)  (r0 : Nat) (x2 : Int32) (r3 : Nat) (j4 : Int64) (M : am_Mem) : Option (Int32 × am_Mem) :=
  if x2 = 0 then fn11_grow_b50 N  j4 r0 x2 r3 j4 M else am_ck (am_k M r3 10) (fn11_grow_b50 N  ((am_I M r3 5).toInt64) r0 x2 r3 j4 M)
def fn11_grow_b0 (N : Nat)  (r0 : Nat) (x1 : Int32) (x2 : Int32) (M : am_Mem) : Option (Int32 × am_Mem) :=
  am_ck (am_k M r0 11) (am_bd (fn11_usable M r0 x1) (fun v2 M3 => if v2 = 0 then fn11_grow_b21 N   M3 else am_ck (am_k M3 v2 10) (if ((am_I M3 v2 4) + (1 : Int32)) ≤ (40 : Int32) then fn11_grow_b36 N  r0 x2 v2 ((am_I M3 v2 5).toInt64 + (am_I M3 v2 6).toInt64) M3 else fn11_grow_b21 N   M3)))
def fn11_grow (N : Nat) (M : am_Mem) (r0 : Nat) (x1 : Int32) (x2 : Int32) : Option (Int32 × am_Mem) := fn11_grow_b0 N r0 x1 x2 M
def rm11_grow : Room := { frames := 3, cells := 4, slots := 131, locals := 68 }
set_option maxRecDepth 20000 in
theorem sn11_grow_b21 {l : Launch} {G : am_G} {v : Int32} {M' : am_Mem} {N : Nat}  (cx : am_Ctx l rm11_grow yX11_grow cX11_grow 10 (some .int) (some (.inl v)) M' 4 131 G)   {M : am_Mem} (hres : fn11_grow_b21 N   M = some (v, M')) : G 21 [] [] M 0 0 := by
  unfold fn11_grow_b21 at hres
  refine am_iconst cx (v := (-1 : Int32)) dX11_grow_21 (by decide) ?_
  obtain ⟨rfl, rfl⟩ := am_fin hres
  refine am_widen cx (k' := 4) (n' := 131) (Nat.le_of_ble_eq_true rfl) (Nat.le_of_ble_eq_true rfl) ?_
  exact am_iret cx dX11_grow_22
set_option maxRecDepth 20000 in
theorem sn11_grow_b143 {l : Launch} {G : am_G} {v : Int32} {M' : am_Mem} {N : Nat}  (cx : am_Ctx l rm11_grow yX11_grow cX11_grow 10 (some .int) (some (.inl v)) M' 4 131 G)  {r0 : Nat} {M : am_Mem} (hres : fn11_grow_b143 N  r0 M = some (v, M')) : G 143 [(0, .inr (.inr (.inl r0)))] [] M 0 0 := by
  unfold fn11_grow_b143 at hres
  refine am_aload_n cx 0 dX11_grow_143 rfl ?_
  obtain ⟨q1, hres⟩ := am_ck_some hres
  obtain ⟨v2, M3, q4, hres⟩ := am_bd_some hres
  refine am_callV1 cx [] dX11_grow_144 cvX11_281 (mt11_putMade q4) (am_ke q1) ⟨rfl, rfl, Nat.le_of_ble_eq_true rfl, Nat.le_of_ble_eq_true rfl⟩ rfl (Nat.le_of_ble_eq_true rfl) ⟨Nat.le_of_ble_eq_true rfl, Nat.le_of_ble_eq_true rfl⟩ ?_
  obtain ⟨rfl, rfl⟩ := am_fin hres
  exact am_iret cx dX11_grow_147
set_option maxRecDepth 20000 in
theorem sn11_grow_b68 {l : Launch} {G : am_G} {v : Int32} {M' : am_Mem} {N : Nat}  (cx : am_Ctx l rm11_grow yX11_grow cX11_grow 10 (some .int) (some (.inl v)) M' 4 131 G)  {r0 : Nat} {x2 : Int32} {r3 : Nat} {j6 : Int64} {j8 : Int64} {M : am_Mem} (hres : fn11_grow_b68 N  r0 x2 r3 j6 j8 M = some (v, M')) : G 68 [(0, .inr (.inr (.inl r0))), (2, .inl x2), (3, .inr (.inr (.inl r3))), (6, .inr (.inl j6)), (8, .inr (.inl j8))] [] M 0 0 := by
  unfold fn11_grow_b68 at hres
  refine am_lload cx 3 dX11_grow_68 rfl ?_
  refine am_lload cx 4 dX11_grow_70 rfl ?_
  obtain ⟨v1, M2, q3, hres⟩ := am_bd_some hres
  refine am_callS1 cx [.inr (.inl j6), .inr (.inl j8)] dX11_grow_72 csX11_269 (mt11_isTooLarge q3)  ⟨rfl, rfl, Nat.le_of_ble_eq_true rfl, Nat.le_of_ble_eq_true rfl⟩ rfl (Nat.le_of_ble_eq_true rfl) ⟨Nat.le_of_ble_eq_true rfl, Nat.le_of_ble_eq_true rfl⟩ ?_
  refine am_if_eq cx (tgt := 80) dX11_grow_75 (by decide) (fun h => ?_) (fun h => ?_)
  · have hres := am_ifp h hres
    refine am_aload_n cx 0 dX11_grow_80 rfl ?_
    obtain ⟨q4, hres⟩ := am_ck_some hres
    refine am_getR cx dX11_grow_81 flX11_42 (am_ke q4) ?_
    refine am_lload cx 3 dX11_grow_84 rfl ?_
    refine am_l2i cx dX11_grow_86 ?_
    refine am_lload cx 4 dX11_grow_87 rfl ?_
    refine am_l2i cx dX11_grow_89 ?_
    obtain ⟨q5, hres⟩ := am_ck_some hres
    obtain ⟨v6, M7, q8, hres⟩ := am_bd_some hres
    refine am_callV0 cx [.inl j6.toInt32, .inl j8.toInt32] dX11_grow_90 cvX11_273 (mt0_begin q8) (am_ke q5) ⟨rfl, rfl, Nat.le_of_ble_eq_true rfl, Nat.le_of_ble_eq_true rfl⟩ rfl (Nat.le_of_ble_eq_true rfl) ⟨Nat.le_of_ble_eq_true rfl, Nat.le_of_ble_eq_true rfl⟩ ?_
    refine am_aload_n cx 0 dX11_grow_93 rfl ?_
    obtain ⟨q9, hres⟩ := am_ck_some hres
    refine am_getR cx dX11_grow_94 flX11_42 (am_ke q9) ?_
    refine am_aload_n cx 2 dX11_grow_97 rfl ?_
    refine am_iconst cx (v := (1 : Int32)) dX11_grow_98 (by decide) ?_
    refine am_iconst cx (v := (0 : Int32)) dX11_grow_99 (by decide) ?_
    refine am_iconst cx (v := (0 : Int32)) dX11_grow_100 (by decide) ?_
    obtain ⟨q10, hres⟩ := am_ck_some hres
    obtain ⟨v11, M12, q13, hres⟩ := am_bd_some hres
    refine am_callV0 cx [.inr (.inr (.inl r3)), .inl (1 : Int32), .inl (0 : Int32), .inl (0 : Int32)] dX11_grow_101 cvX11_277 (mt0_addTimes q13) (am_ke q10) ⟨rfl, rfl, Nat.le_of_ble_eq_true rfl, Nat.le_of_ble_eq_true rfl⟩ rfl (Nat.le_of_ble_eq_true rfl) ⟨Nat.le_of_ble_eq_true rfl, Nat.le_of_ble_eq_true rfl⟩ ?_
    refine am_iload_n cx 1 dX11_grow_104 rfl ?_
    refine am_if_eq cx (tgt := 127) dX11_grow_105 (by decide) (fun h => ?_) (fun h => ?_)
    · have hres := am_ifp h hres
      refine am_aload_n cx 0 dX11_grow_127 rfl ?_
      obtain ⟨q14, hres⟩ := am_ck_some hres
      refine am_getR cx dX11_grow_128 flX11_42 (am_ke q14) ?_
      refine am_aload_n cx 2 dX11_grow_131 rfl ?_
      obtain ⟨q15, hres⟩ := am_ck_some hres
      refine am_getI cx dX11_grow_132 flX11_130 (am_ke q15) ?_
      refine am_iconst cx (v := (0 : Int32)) dX11_grow_135 (by decide) ?_
      refine am_aload_n cx 2 dX11_grow_136 rfl ?_
      refine am_getI cx dX11_grow_137 flX11_133 (am_ke q15) ?_
      obtain ⟨q16, hres⟩ := am_ck_some hres
      obtain ⟨v17, M18, q19, hres⟩ := am_bd_some hres
      refine am_callV0 cx [.inl (am_I M12 r3 5), .inl (0 : Int32), .inl (am_I M12 r3 6)] dX11_grow_140 cvX11_284 (mt0_add q19) (am_ke q16) ⟨rfl, rfl, Nat.le_of_ble_eq_true rfl, Nat.le_of_ble_eq_true rfl⟩ rfl (Nat.le_of_ble_eq_true rfl) ⟨Nat.le_of_ble_eq_true rfl, Nat.le_of_ble_eq_true rfl⟩ ?_
      refine am_sub cx [0] rfl ?_
      exact sn11_grow_b143 cx  hres
    · have hres := am_ifn h hres
      refine am_aload_n cx 0 dX11_grow_108 rfl ?_
      obtain ⟨q20, hres⟩ := am_ck_some hres
      refine am_getR cx dX11_grow_109 flX11_42 (am_ke q20) ?_
      refine am_iconst cx (v := (0 : Int32)) dX11_grow_112 (by decide) ?_
      refine am_aload_n cx 2 dX11_grow_113 rfl ?_
      obtain ⟨q21, hres⟩ := am_ck_some hres
      refine am_getI cx dX11_grow_114 flX11_133 (am_ke q21) ?_
      refine am_aload_n cx 2 dX11_grow_117 rfl ?_
      refine am_getI cx dX11_grow_118 flX11_130 (am_ke q21) ?_
      obtain ⟨q22, hres⟩ := am_ck_some hres
      obtain ⟨v23, M24, q25, hres⟩ := am_bd_some hres
      refine am_callV0 cx [.inl (0 : Int32), .inl (am_I M12 r3 6), .inl (am_I M12 r3 5)] dX11_grow_121 cvX11_284 (mt0_add q25) (am_ke q22) ⟨rfl, rfl, Nat.le_of_ble_eq_true rfl, Nat.le_of_ble_eq_true rfl⟩ rfl (Nat.le_of_ble_eq_true rfl) ⟨Nat.le_of_ble_eq_true rfl, Nat.le_of_ble_eq_true rfl⟩ ?_
      refine am_goto cx (tgt := 143) dX11_grow_124 (by decide) ?_
      refine am_sub cx [0] rfl ?_
      exact sn11_grow_b143 cx  hres
  · have hres := am_ifn h hres
    refine am_iconst cx (v := (-1 : Int32)) dX11_grow_78 (by decide) ?_
    obtain ⟨rfl, rfl⟩ := am_fin hres
    refine am_widen cx (k' := 4) (n' := 131) (Nat.le_of_ble_eq_true rfl) (Nat.le_of_ble_eq_true rfl) ?_
    exact am_iret cx dX11_grow_79
set_option maxRecDepth 20000 in
theorem sn11_grow_b66 {l : Launch} {G : am_G} {v : Int32} {M' : am_Mem} {N : Nat}  (cx : am_Ctx l rm11_grow yX11_grow cX11_grow 10 (some .int) (some (.inl v)) M' 4 131 G)  {b0 : Int64} {r0 : Nat} {x2 : Int32} {r3 : Nat} {j6 : Int64} {M : am_Mem} (hres : fn11_grow_b66 N  b0 r0 x2 r3 j6 M = some (v, M')) : G 66 [(0, .inr (.inr (.inl r0))), (2, .inl x2), (3, .inr (.inr (.inl r3))), (6, .inr (.inl j6))] [.inr (.inl b0)] M 0 0 := by
  unfold fn11_grow_b66 at hres
  refine am_lstore cx (lv' := [(0, .inr (.inr (.inl r0))), (2, .inl x2), (3, .inr (.inr (.inl r3))), (6, .inr (.inl j6)), (8, .inr (.inl b0))]) dX11_grow_66 (Nat.le_of_ble_eq_true rfl) rfl ?_
  exact sn11_grow_b68 cx  hres
set_option maxRecDepth 20000 in
theorem sn11_grow_b50 {l : Launch} {G : am_G} {v : Int32} {M' : am_Mem} {N : Nat}  (cx : am_Ctx l rm11_grow yX11_grow cX11_grow 10 (some .int) (some (.inl v)) M' 4 131 G)  {b0 : Int64} {r0 : Nat} {x2 : Int32} {r3 : Nat} {j4 : Int64} {M : am_Mem} (hres : fn11_grow_b50 N  b0 r0 x2 r3 j4 M = some (v, M')) : G 50 [(0, .inr (.inr (.inl r0))), (2, .inl x2), (3, .inr (.inr (.inl r3))), (4, .inr (.inl j4))] [.inr (.inl b0)] M 0 0 := by
  unfold fn11_grow_b50 at hres
  refine am_lstore cx (lv' := [(0, .inr (.inr (.inl r0))), (2, .inl x2), (3, .inr (.inr (.inl r3))), (4, .inr (.inl j4)), (6, .inr (.inl b0))]) dX11_grow_50 (Nat.le_of_ble_eq_true rfl) rfl ?_
  refine am_iload_n cx 1 dX11_grow_52 rfl ?_
  refine am_if_eq cx (tgt := 61) dX11_grow_53 (by decide) (fun h => ?_) (fun h => ?_)
  · have hres := am_ifp h hres
    refine am_aload_n cx 2 dX11_grow_61 rfl ?_
    obtain ⟨q1, hres⟩ := am_ck_some hres
    refine am_getI cx dX11_grow_62 flX11_133 (am_ke q1) ?_
    refine am_i2l cx dX11_grow_65 ?_
    refine am_sub cx [0, 1, 2, 4] rfl ?_
    exact sn11_grow_b66 cx  hres
  · have hres := am_ifn h hres
    refine am_lload cx 3 dX11_grow_56 rfl ?_
    refine am_goto cx (tgt := 66) dX11_grow_58 (by decide) ?_
    refine am_sub cx [0, 1, 2, 4] rfl ?_
    exact sn11_grow_b66 cx  hres
set_option maxRecDepth 20000 in
theorem sn11_grow_b36 {l : Launch} {G : am_G} {v : Int32} {M' : am_Mem} {N : Nat}  (cx : am_Ctx l rm11_grow yX11_grow cX11_grow 10 (some .int) (some (.inl v)) M' 4 131 G)  {r0 : Nat} {x2 : Int32} {r3 : Nat} {j4 : Int64} {M : am_Mem} (hres : fn11_grow_b36 N  r0 x2 r3 j4 M = some (v, M')) : G 36 [(0, .inr (.inr (.inl r0))), (2, .inl x2), (3, .inr (.inr (.inl r3))), (4, .inr (.inl j4))] [] M 0 0 := by
  unfold fn11_grow_b36 at hres
  refine am_iload_n cx 1 dX11_grow_36 rfl ?_
  refine am_if_eq cx (tgt := 48) dX11_grow_37 (by decide) (fun h => ?_) (fun h => ?_)
  · have hres := am_ifp h hres
    refine am_lload cx 3 dX11_grow_48 rfl ?_
    exact sn11_grow_b50 cx  hres
  · have hres := am_ifn h hres
    refine am_aload_n cx 2 dX11_grow_40 rfl ?_
    obtain ⟨q1, hres⟩ := am_ck_some hres
    refine am_getI cx dX11_grow_41 flX11_130 (am_ke q1) ?_
    refine am_i2l cx dX11_grow_44 ?_
    refine am_goto cx (tgt := 50) dX11_grow_45 (by decide) ?_
    exact sn11_grow_b50 cx  hres
set_option maxRecDepth 20000 in
theorem sn11_grow_b0 {l : Launch} {G : am_G} {v : Int32} {M' : am_Mem} {N : Nat}  (cx : am_Ctx l rm11_grow yX11_grow cX11_grow 10 (some .int) (some (.inl v)) M' 4 131 G)  {r0 : Nat} {x1 : Int32} {x2 : Int32} {M : am_Mem} (hres : fn11_grow_b0 N  r0 x1 x2 M = some (v, M')) : G 0 [(0, .inr (.inr (.inl r0))), (1, .inl x1), (2, .inl x2)] [] M 0 0 := by
  unfold fn11_grow_b0 at hres
  refine am_aload_n cx 0 dX11_grow_0 rfl ?_
  refine am_iload_n cx 1 dX11_grow_1 rfl ?_
  obtain ⟨q1, hres⟩ := am_ck_some hres
  obtain ⟨v2, M3, q4, hres⟩ := am_bd_some hres
  refine am_callV1 cx [.inl x1] dX11_grow_2 cvX11_263 (mt11_usable q4) (am_ke q1) ⟨rfl, rfl, Nat.le_of_ble_eq_true rfl, Nat.le_of_ble_eq_true rfl⟩ rfl (Nat.le_of_ble_eq_true rfl) ⟨Nat.le_of_ble_eq_true rfl, Nat.le_of_ble_eq_true rfl⟩ ?_
  refine am_astore_n cx (lv' := [(0, .inr (.inr (.inl r0))), (1, .inl x1), (2, .inl x2), (3, .inr (.inr (.inl v2)))]) dX11_grow_5 (Nat.le_of_ble_eq_true rfl) rfl ?_
  refine am_aload_n cx 3 dX11_grow_6 rfl ?_
  refine am_ifnull cx (tgt := 21) dX11_grow_7 (by decide) (fun h => ?_) (fun h => ?_)
  · have hres := am_ifp h hres
    refine am_sub cx [] rfl ?_
    exact sn11_grow_b21 cx  hres
  · have hres := am_ifn h hres
    refine am_aload_n cx 3 dX11_grow_10 rfl ?_
    obtain ⟨q5, hres⟩ := am_ck_some hres
    refine am_getI cx dX11_grow_11 flX11_127 (am_ke q5) ?_
    refine am_iconst cx (v := (1 : Int32)) dX11_grow_14 (by decide) ?_
    refine am_iadd cx dX11_grow_15 ?_
    refine am_bipush cx (v := (40 : Int32)) dX11_grow_16 (by decide) ?_
    refine am_icmp_le cx (tgt := 23) dX11_grow_18 (by decide) (fun h => ?_) (fun h => ?_)
    · have hres := am_ifp h hres
      refine am_aload_n cx 3 dX11_grow_23 rfl ?_
      refine am_getI cx dX11_grow_24 flX11_130 (am_ke q5) ?_
      refine am_i2l cx dX11_grow_27 ?_
      refine am_aload_n cx 3 dX11_grow_28 rfl ?_
      refine am_getI cx dX11_grow_29 flX11_133 (am_ke q5) ?_
      refine am_i2l cx dX11_grow_32 ?_
      refine am_ladd cx dX11_grow_33 ?_
      refine am_lstore cx (lv' := [(0, .inr (.inr (.inl r0))), (1, .inl x1), (2, .inl x2), (3, .inr (.inr (.inl v2))), (4, .inr (.inl ((am_I M3 v2 5).toInt64 + (am_I M3 v2 6).toInt64)))]) dX11_grow_34 (Nat.le_of_ble_eq_true rfl) rfl ?_
      refine am_sub cx [0, 2, 3, 4] rfl ?_
      exact sn11_grow_b36 cx  hres
    · have hres := am_ifn h hres
      refine am_sub cx [] rfl ?_
      exact sn11_grow_b21 cx  hres
set_option maxRecDepth 20000 in
theorem mt11_grow {l : Launch} {v : Int32} {M M' : am_Mem} {N : Nat} {r0 : Nat} {x1 : Int32} {x2 : Int32} (h : fn11_grow N M r0 x1 x2 = some (v, M')) : am_Met l yX11_grow cX11_grow 10 (some .int) rm11_grow 4 131 [.inr (.inr (.inl r0)), .inl x1, .inl x2] M (some (.inl v)) M' := am_mk (by decide) (Nat.le_of_ble_eq_true rfl) (fun G cx => (sn11_grow_b0 cx h))
-- SquareCuts.turn
def fn11_turn_b20 (N : Nat)   (M : am_Mem) : Option (Int32 × am_Mem) :=
  some ((-1 : Int32), M)
def fn11_turn_b0 (N : Nat)  (r0 : Nat) (x1 : Int32) (x2 : Int32) (M : am_Mem) : Option (Int32 × am_Mem) :=
  am_ck (am_k M r0 11) (am_bd (fn11_usable M r0 x1) (fun v2 M3 => if v2 = 0 then fn11_turn_b20 N   M3 else if x2 < 0 then fn11_turn_b20 N   M3 else if x2 < (8 : Int32) then am_ck (am_k M3 r0 11) (am_ck (am_k M3 (am_R M3 r0 4) 0) (am_bd (fn0_takeTurned N M3 (am_R M3 r0 4) v2 x2 (1 : Int32)) (fun v7 M8 => am_ck (am_k M8 r0 11) (am_bd (fn11_putMade N M8 r0) (fun v11 M12 => some (v11, M12)))))) else fn11_turn_b20 N   M3))
def fn11_turn (N : Nat) (M : am_Mem) (r0 : Nat) (x1 : Int32) (x2 : Int32) : Option (Int32 × am_Mem) := fn11_turn_b0 N r0 x1 x2 M
def rm11_turn : Room := { frames := 3, cells := 4, slots := 131, locals := 81 }
set_option maxRecDepth 20000 in
theorem sn11_turn_b20 {l : Launch} {G : am_G} {v : Int32} {M' : am_Mem} {N : Nat}  (cx : am_Ctx l rm11_turn yX11_turn cX11_turn 4 (some .int) (some (.inl v)) M' 4 131 G)   {M : am_Mem} (hres : fn11_turn_b20 N   M = some (v, M')) : G 20 [] [] M 0 0 := by
  unfold fn11_turn_b20 at hres
  refine am_iconst cx (v := (-1 : Int32)) dX11_turn_20 (by decide) ?_
  obtain ⟨rfl, rfl⟩ := am_fin hres
  refine am_widen cx (k' := 4) (n' := 131) (Nat.le_of_ble_eq_true rfl) (Nat.le_of_ble_eq_true rfl) ?_
  exact am_iret cx dX11_turn_21
set_option maxRecDepth 20000 in
theorem sn11_turn_b0 {l : Launch} {G : am_G} {v : Int32} {M' : am_Mem} {N : Nat}  (cx : am_Ctx l rm11_turn yX11_turn cX11_turn 4 (some .int) (some (.inl v)) M' 4 131 G)  {r0 : Nat} {x1 : Int32} {x2 : Int32} {M : am_Mem} (hres : fn11_turn_b0 N  r0 x1 x2 M = some (v, M')) : G 0 [(0, .inr (.inr (.inl r0))), (1, .inl x1), (2, .inl x2)] [] M 0 0 := by
  unfold fn11_turn_b0 at hres
  refine am_aload_n cx 0 dX11_turn_0 rfl ?_
  refine am_iload_n cx 1 dX11_turn_1 rfl ?_
  obtain ⟨q1, hres⟩ := am_ck_some hres
  obtain ⟨v2, M3, q4, hres⟩ := am_bd_some hres
  refine am_callV1 cx [.inl x1] dX11_turn_2 cvX11_263 (mt11_usable q4) (am_ke q1) ⟨rfl, rfl, Nat.le_of_ble_eq_true rfl, Nat.le_of_ble_eq_true rfl⟩ rfl (Nat.le_of_ble_eq_true rfl) ⟨Nat.le_of_ble_eq_true rfl, Nat.le_of_ble_eq_true rfl⟩ ?_
  refine am_astore_n cx (lv' := [(0, .inr (.inr (.inl r0))), (1, .inl x1), (2, .inl x2), (3, .inr (.inr (.inl v2)))]) dX11_turn_5 (Nat.le_of_ble_eq_true rfl) rfl ?_
  refine am_aload_n cx 3 dX11_turn_6 rfl ?_
  refine am_ifnull cx (tgt := 20) dX11_turn_7 (by decide) (fun h => ?_) (fun h => ?_)
  · have hres := am_ifp h hres
    refine am_sub cx [] rfl ?_
    exact sn11_turn_b20 cx  hres
  · have hres := am_ifn h hres
    refine am_iload_n cx 2 dX11_turn_10 rfl ?_
    refine am_if_lt cx (tgt := 20) dX11_turn_11 (by decide) (fun h => ?_) (fun h => ?_)
    · have hres := am_ifp h hres
      refine am_sub cx [] rfl ?_
      exact sn11_turn_b20 cx  hres
    · have hres := am_ifn h hres
      refine am_iload_n cx 2 dX11_turn_14 rfl ?_
      refine am_bipush cx (v := (8 : Int32)) dX11_turn_15 (by decide) ?_
      refine am_icmp_lt cx (tgt := 22) dX11_turn_17 (by decide) (fun h => ?_) (fun h => ?_)
      · have hres := am_ifp h hres
        refine am_aload_n cx 0 dX11_turn_22 rfl ?_
        obtain ⟨q5, hres⟩ := am_ck_some hres
        refine am_getR cx dX11_turn_23 flX11_42 (am_ke q5) ?_
        refine am_aload_n cx 3 dX11_turn_26 rfl ?_
        refine am_iload_n cx 2 dX11_turn_27 rfl ?_
        refine am_iconst cx (v := (1 : Int32)) dX11_turn_28 (by decide) ?_
        obtain ⟨q6, hres⟩ := am_ck_some hres
        obtain ⟨v7, M8, q9, hres⟩ := am_bd_some hres
        refine am_callV0 cx [.inr (.inr (.inl v2)), .inl x2, .inl (1 : Int32)] dX11_turn_29 cvX11_255 (mt0_takeTurned q9) (am_ke q6) ⟨rfl, rfl, Nat.le_of_ble_eq_true rfl, Nat.le_of_ble_eq_true rfl⟩ rfl (Nat.le_of_ble_eq_true rfl) ⟨Nat.le_of_ble_eq_true rfl, Nat.le_of_ble_eq_true rfl⟩ ?_
        refine am_aload_n cx 0 dX11_turn_32 rfl ?_
        obtain ⟨q10, hres⟩ := am_ck_some hres
        obtain ⟨v11, M12, q13, hres⟩ := am_bd_some hres
        refine am_callV1 cx [] dX11_turn_33 cvX11_281 (mt11_putMade q13) (am_ke q10) ⟨rfl, rfl, Nat.le_of_ble_eq_true rfl, Nat.le_of_ble_eq_true rfl⟩ rfl (Nat.le_of_ble_eq_true rfl) ⟨Nat.le_of_ble_eq_true rfl, Nat.le_of_ble_eq_true rfl⟩ ?_
        obtain ⟨rfl, rfl⟩ := am_fin hres
        exact am_iret cx dX11_turn_36
      · have hres := am_ifn h hres
        refine am_sub cx [] rfl ?_
        exact sn11_turn_b20 cx  hres
set_option maxRecDepth 20000 in
theorem mt11_turn {l : Launch} {v : Int32} {M M' : am_Mem} {N : Nat} {r0 : Nat} {x1 : Int32} {x2 : Int32} (h : fn11_turn N M r0 x1 x2 = some (v, M')) : am_Met l yX11_turn cX11_turn 4 (some .int) rm11_turn 4 131 [.inr (.inr (.inl r0)), .inl x1, .inl x2] M (some (.inl v)) M' := am_mk (by decide) (Nat.le_of_ble_eq_true rfl) (fun G cx => (sn11_turn_b0 cx h))
-- SquareCuts.times
def fn11_times_b22 (N : Nat)   (M : am_Mem) : Option (Int32 × am_Mem) :=
  some ((-1 : Int32), M)
def fn11_times_b44 (N : Nat)  (r0 : Nat) (x2 : Int32) (r3 : Nat) (j4 : Int64) (j6 : Int64) (M : am_Mem) : Option (Int32 × am_Mem) :=
  am_bd (fn11_isTooLarge M j4 j6) (fun v1 M2 => if v1 = 0 then am_ck (am_k M2 r0 11) (am_ck (am_k M2 (am_R M2 r0 4) 0) (am_bd (fn0_begin M2 (am_R M2 r0 4) j4.toInt32 j6.toInt32) (fun v6 M7 => am_ck (am_k M7 r0 11) (am_ck (am_k M7 (am_R M7 r0 4) 0) (am_bd (fn0_addTimes N M7 (am_R M7 r0 4) r3 x2 (0 : Int32) (0 : Int32)) (fun v11 M12 => am_ck (am_k M12 r0 11) (am_bd (fn11_putMade N M12 r0) (fun v15 M16 => some (v15, M16))))))))) else some ((-1 : Int32), M2))
def fn11_times_b34 (N : Nat)  (r0 : Nat) (x2 : Int32) (r3 : Nat) (j4 : Int64) (M : am_Mem) : Option (Int32 × am_Mem) :=
  am_ck (am_k M r3 10) (fn11_times_b44 N  r0 x2 r3 j4 ((am_I M r3 6).toInt64 * x2.toInt64) M)
def fn11_times_b0 (N : Nat)  (r0 : Nat) (x1 : Int32) (x2 : Int32) (M : am_Mem) : Option (Int32 × am_Mem) :=
  am_ck (am_k M r0 11) (am_bd (fn11_usable M r0 x1) (fun v2 M3 => if v2 = 0 then fn11_times_b22 N   M3 else if x2 < (1 : Int32) then fn11_times_b22 N   M3 else if x2 ≤ (9999 : Int32) then am_ck (am_k M3 v2 10) (fn11_times_b34 N  r0 x2 v2 ((am_I M3 v2 5).toInt64 * x2.toInt64) M3) else fn11_times_b22 N   M3))
def fn11_times (N : Nat) (M : am_Mem) (r0 : Nat) (x1 : Int32) (x2 : Int32) : Option (Int32 × am_Mem) := fn11_times_b0 N r0 x1 x2 M
def rm11_times : Room := { frames := 3, cells := 4, slots := 131, locals := 68 }
set_option maxRecDepth 20000 in
theorem sn11_times_b22 {l : Launch} {G : am_G} {v : Int32} {M' : am_Mem} {N : Nat}  (cx : am_Ctx l rm11_times yX11_times cX11_times 8 (some .int) (some (.inl v)) M' 4 131 G)   {M : am_Mem} (hres : fn11_times_b22 N   M = some (v, M')) : G 22 [] [] M 0 0 := by
  unfold fn11_times_b22 at hres
  refine am_iconst cx (v := (-1 : Int32)) dX11_times_22 (by decide) ?_
  obtain ⟨rfl, rfl⟩ := am_fin hres
  refine am_widen cx (k' := 4) (n' := 131) (Nat.le_of_ble_eq_true rfl) (Nat.le_of_ble_eq_true rfl) ?_
  exact am_iret cx dX11_times_23
set_option maxRecDepth 20000 in
theorem sn11_times_b44 {l : Launch} {G : am_G} {v : Int32} {M' : am_Mem} {N : Nat}  (cx : am_Ctx l rm11_times yX11_times cX11_times 8 (some .int) (some (.inl v)) M' 4 131 G)  {r0 : Nat} {x2 : Int32} {r3 : Nat} {j4 : Int64} {j6 : Int64} {M : am_Mem} (hres : fn11_times_b44 N  r0 x2 r3 j4 j6 M = some (v, M')) : G 44 [(0, .inr (.inr (.inl r0))), (2, .inl x2), (3, .inr (.inr (.inl r3))), (4, .inr (.inl j4)), (6, .inr (.inl j6))] [] M 0 0 := by
  unfold fn11_times_b44 at hres
  refine am_lload cx 3 dX11_times_44 rfl ?_
  refine am_lload cx 4 dX11_times_46 rfl ?_
  obtain ⟨v1, M2, q3, hres⟩ := am_bd_some hres
  refine am_callS1 cx [.inr (.inl j4), .inr (.inl j6)] dX11_times_48 csX11_269 (mt11_isTooLarge q3)  ⟨rfl, rfl, Nat.le_of_ble_eq_true rfl, Nat.le_of_ble_eq_true rfl⟩ rfl (Nat.le_of_ble_eq_true rfl) ⟨Nat.le_of_ble_eq_true rfl, Nat.le_of_ble_eq_true rfl⟩ ?_
  refine am_if_eq cx (tgt := 56) dX11_times_51 (by decide) (fun h => ?_) (fun h => ?_)
  · have hres := am_ifp h hres
    refine am_aload_n cx 0 dX11_times_56 rfl ?_
    obtain ⟨q4, hres⟩ := am_ck_some hres
    refine am_getR cx dX11_times_57 flX11_42 (am_ke q4) ?_
    refine am_lload cx 3 dX11_times_60 rfl ?_
    refine am_l2i cx dX11_times_62 ?_
    refine am_lload cx 4 dX11_times_63 rfl ?_
    refine am_l2i cx dX11_times_65 ?_
    obtain ⟨q5, hres⟩ := am_ck_some hres
    obtain ⟨v6, M7, q8, hres⟩ := am_bd_some hres
    refine am_callV0 cx [.inl j4.toInt32, .inl j6.toInt32] dX11_times_66 cvX11_273 (mt0_begin q8) (am_ke q5) ⟨rfl, rfl, Nat.le_of_ble_eq_true rfl, Nat.le_of_ble_eq_true rfl⟩ rfl (Nat.le_of_ble_eq_true rfl) ⟨Nat.le_of_ble_eq_true rfl, Nat.le_of_ble_eq_true rfl⟩ ?_
    refine am_aload_n cx 0 dX11_times_69 rfl ?_
    obtain ⟨q9, hres⟩ := am_ck_some hres
    refine am_getR cx dX11_times_70 flX11_42 (am_ke q9) ?_
    refine am_aload_n cx 2 dX11_times_73 rfl ?_
    refine am_iload_n cx 1 dX11_times_74 rfl ?_
    refine am_iconst cx (v := (0 : Int32)) dX11_times_75 (by decide) ?_
    refine am_iconst cx (v := (0 : Int32)) dX11_times_76 (by decide) ?_
    obtain ⟨q10, hres⟩ := am_ck_some hres
    obtain ⟨v11, M12, q13, hres⟩ := am_bd_some hres
    refine am_callV0 cx [.inr (.inr (.inl r3)), .inl x2, .inl (0 : Int32), .inl (0 : Int32)] dX11_times_77 cvX11_277 (mt0_addTimes q13) (am_ke q10) ⟨rfl, rfl, Nat.le_of_ble_eq_true rfl, Nat.le_of_ble_eq_true rfl⟩ rfl (Nat.le_of_ble_eq_true rfl) ⟨Nat.le_of_ble_eq_true rfl, Nat.le_of_ble_eq_true rfl⟩ ?_
    refine am_aload_n cx 0 dX11_times_80 rfl ?_
    obtain ⟨q14, hres⟩ := am_ck_some hres
    obtain ⟨v15, M16, q17, hres⟩ := am_bd_some hres
    refine am_callV1 cx [] dX11_times_81 cvX11_281 (mt11_putMade q17) (am_ke q14) ⟨rfl, rfl, Nat.le_of_ble_eq_true rfl, Nat.le_of_ble_eq_true rfl⟩ rfl (Nat.le_of_ble_eq_true rfl) ⟨Nat.le_of_ble_eq_true rfl, Nat.le_of_ble_eq_true rfl⟩ ?_
    obtain ⟨rfl, rfl⟩ := am_fin hres
    exact am_iret cx dX11_times_84
  · have hres := am_ifn h hres
    refine am_iconst cx (v := (-1 : Int32)) dX11_times_54 (by decide) ?_
    obtain ⟨rfl, rfl⟩ := am_fin hres
    refine am_widen cx (k' := 4) (n' := 131) (Nat.le_of_ble_eq_true rfl) (Nat.le_of_ble_eq_true rfl) ?_
    exact am_iret cx dX11_times_55
set_option maxRecDepth 20000 in
theorem sn11_times_b34 {l : Launch} {G : am_G} {v : Int32} {M' : am_Mem} {N : Nat}  (cx : am_Ctx l rm11_times yX11_times cX11_times 8 (some .int) (some (.inl v)) M' 4 131 G)  {r0 : Nat} {x2 : Int32} {r3 : Nat} {j4 : Int64} {M : am_Mem} (hres : fn11_times_b34 N  r0 x2 r3 j4 M = some (v, M')) : G 34 [(0, .inr (.inr (.inl r0))), (2, .inl x2), (3, .inr (.inr (.inl r3))), (4, .inr (.inl j4))] [] M 0 0 := by
  unfold fn11_times_b34 at hres
  refine am_aload_n cx 2 dX11_times_34 rfl ?_
  obtain ⟨q1, hres⟩ := am_ck_some hres
  refine am_getI cx dX11_times_35 flX11_133 (am_ke q1) ?_
  refine am_i2l cx dX11_times_38 ?_
  refine am_iload_n cx 1 dX11_times_39 rfl ?_
  refine am_i2l cx dX11_times_40 ?_
  refine am_lmul cx dX11_times_41 ?_
  refine am_lstore cx (lv' := [(0, .inr (.inr (.inl r0))), (2, .inl x2), (3, .inr (.inr (.inl r3))), (4, .inr (.inl j4)), (6, .inr (.inl ((am_I M r3 6).toInt64 * x2.toInt64)))]) dX11_times_42 (Nat.le_of_ble_eq_true rfl) rfl ?_
  exact sn11_times_b44 cx  hres
set_option maxRecDepth 20000 in
theorem sn11_times_b0 {l : Launch} {G : am_G} {v : Int32} {M' : am_Mem} {N : Nat}  (cx : am_Ctx l rm11_times yX11_times cX11_times 8 (some .int) (some (.inl v)) M' 4 131 G)  {r0 : Nat} {x1 : Int32} {x2 : Int32} {M : am_Mem} (hres : fn11_times_b0 N  r0 x1 x2 M = some (v, M')) : G 0 [(0, .inr (.inr (.inl r0))), (1, .inl x1), (2, .inl x2)] [] M 0 0 := by
  unfold fn11_times_b0 at hres
  refine am_aload_n cx 0 dX11_times_0 rfl ?_
  refine am_iload_n cx 1 dX11_times_1 rfl ?_
  obtain ⟨q1, hres⟩ := am_ck_some hres
  obtain ⟨v2, M3, q4, hres⟩ := am_bd_some hres
  refine am_callV1 cx [.inl x1] dX11_times_2 cvX11_263 (mt11_usable q4) (am_ke q1) ⟨rfl, rfl, Nat.le_of_ble_eq_true rfl, Nat.le_of_ble_eq_true rfl⟩ rfl (Nat.le_of_ble_eq_true rfl) ⟨Nat.le_of_ble_eq_true rfl, Nat.le_of_ble_eq_true rfl⟩ ?_
  refine am_astore_n cx (lv' := [(0, .inr (.inr (.inl r0))), (1, .inl x1), (2, .inl x2), (3, .inr (.inr (.inl v2)))]) dX11_times_5 (Nat.le_of_ble_eq_true rfl) rfl ?_
  refine am_aload_n cx 3 dX11_times_6 rfl ?_
  refine am_ifnull cx (tgt := 22) dX11_times_7 (by decide) (fun h => ?_) (fun h => ?_)
  · have hres := am_ifp h hres
    refine am_sub cx [] rfl ?_
    exact sn11_times_b22 cx  hres
  · have hres := am_ifn h hres
    refine am_iload_n cx 2 dX11_times_10 rfl ?_
    refine am_iconst cx (v := (1 : Int32)) dX11_times_11 (by decide) ?_
    refine am_icmp_lt cx (tgt := 22) dX11_times_12 (by decide) (fun h => ?_) (fun h => ?_)
    · have hres := am_ifp h hres
      refine am_sub cx [] rfl ?_
      exact sn11_times_b22 cx  hres
    · have hres := am_ifn h hres
      refine am_iload_n cx 2 dX11_times_15 rfl ?_
      refine am_sipush cx (v := (9999 : Int32)) dX11_times_16 (by decide) ?_
      refine am_icmp_le cx (tgt := 24) dX11_times_19 (by decide) (fun h => ?_) (fun h => ?_)
      · have hres := am_ifp h hres
        refine am_aload_n cx 3 dX11_times_24 rfl ?_
        obtain ⟨q5, hres⟩ := am_ck_some hres
        refine am_getI cx dX11_times_25 flX11_130 (am_ke q5) ?_
        refine am_i2l cx dX11_times_28 ?_
        refine am_iload_n cx 2 dX11_times_29 rfl ?_
        refine am_i2l cx dX11_times_30 ?_
        refine am_lmul cx dX11_times_31 ?_
        refine am_lstore cx (lv' := [(0, .inr (.inr (.inl r0))), (1, .inl x1), (2, .inl x2), (3, .inr (.inr (.inl v2))), (4, .inr (.inl ((am_I M3 v2 5).toInt64 * x2.toInt64)))]) dX11_times_32 (Nat.le_of_ble_eq_true rfl) rfl ?_
        refine am_sub cx [0, 2, 3, 4] rfl ?_
        exact sn11_times_b34 cx  hres
      · have hres := am_ifn h hres
        refine am_sub cx [] rfl ?_
        exact sn11_times_b22 cx  hres
set_option maxRecDepth 20000 in
theorem mt11_times {l : Launch} {v : Int32} {M M' : am_Mem} {N : Nat} {r0 : Nat} {x1 : Int32} {x2 : Int32} (h : fn11_times N M r0 x1 x2 = some (v, M')) : am_Met l yX11_times cX11_times 8 (some .int) rm11_times 4 131 [.inr (.inr (.inl r0)), .inl x1, .inl x2] M (some (.inl v)) M' := am_mk (by decide) (Nat.le_of_ble_eq_true rfl) (fun G cx => (sn11_times_b0 cx h))
-- SquareCuts.lessen
def fn11_lessen_b0 (N : Nat)  (r0 : Nat) (x1 : Int32) (M : am_Mem) : Option (Int32 × am_Mem) :=
  am_ck (am_k M r0 11) (am_bd (fn11_usable M r0 x1) (fun v2 M3 => if v2 = 0 then some ((-1 : Int32), M3) else am_ck (am_k M3 r0 11) (am_ck (am_k M3 v2 10) (am_bd (fn10_commonDivisor N M3 v2) (fun v7 M8 => am_ck (am_k M8 (am_R M3 r0 4) 0) (am_bd (fn0_takeTurned N M8 (am_R M3 r0 4) v2 (0 : Int32) v7) (fun v11 M12 => am_ck (am_k M12 r0 11) (am_bd (fn11_putMade N M12 r0) (fun v15 M16 => some (v15, M16))))))))))
def fn11_lessen (N : Nat) (M : am_Mem) (r0 : Nat) (x1 : Int32) : Option (Int32 × am_Mem) := fn11_lessen_b0 N r0 x1 M
def rm11_lessen : Room := { frames := 3, cells := 4, slots := 131, locals := 81 }
set_option maxRecDepth 20000 in
theorem sn11_lessen_b0 {l : Launch} {G : am_G} {v : Int32} {M' : am_Mem} {N : Nat}  (cx : am_Ctx l rm11_lessen yX11_lessen cX11_lessen 3 (some .int) (some (.inl v)) M' 4 131 G)  {r0 : Nat} {x1 : Int32} {M : am_Mem} (hres : fn11_lessen_b0 N  r0 x1 M = some (v, M')) : G 0 [(0, .inr (.inr (.inl r0))), (1, .inl x1)] [] M 0 0 := by
  unfold fn11_lessen_b0 at hres
  refine am_aload_n cx 0 dX11_lessen_0 rfl ?_
  refine am_iload_n cx 1 dX11_lessen_1 rfl ?_
  obtain ⟨q1, hres⟩ := am_ck_some hres
  obtain ⟨v2, M3, q4, hres⟩ := am_bd_some hres
  refine am_callV1 cx [.inl x1] dX11_lessen_2 cvX11_263 (mt11_usable q4) (am_ke q1) ⟨rfl, rfl, Nat.le_of_ble_eq_true rfl, Nat.le_of_ble_eq_true rfl⟩ rfl (Nat.le_of_ble_eq_true rfl) ⟨Nat.le_of_ble_eq_true rfl, Nat.le_of_ble_eq_true rfl⟩ ?_
  refine am_astore_n cx (lv' := [(0, .inr (.inr (.inl r0))), (1, .inl x1), (2, .inr (.inr (.inl v2)))]) dX11_lessen_5 (Nat.le_of_ble_eq_true rfl) rfl ?_
  refine am_aload_n cx 2 dX11_lessen_6 rfl ?_
  refine am_ifnonnull cx (tgt := 12) dX11_lessen_7 (by decide) (fun h => ?_) (fun h => ?_)
  · have hres := am_ifn h hres
    refine am_aload_n cx 0 dX11_lessen_12 rfl ?_
    obtain ⟨q5, hres⟩ := am_ck_some hres
    refine am_getR cx dX11_lessen_13 flX11_42 (am_ke q5) ?_
    refine am_aload_n cx 2 dX11_lessen_16 rfl ?_
    refine am_iconst cx (v := (0 : Int32)) dX11_lessen_17 (by decide) ?_
    refine am_aload_n cx 2 dX11_lessen_18 rfl ?_
    obtain ⟨q6, hres⟩ := am_ck_some hres
    obtain ⟨v7, M8, q9, hres⟩ := am_bd_some hres
    refine am_callV1 cx [] dX11_lessen_19 cvX11_252 (mt10_commonDivisor q9) (am_ke q6) ⟨rfl, rfl, Nat.le_of_ble_eq_true rfl, Nat.le_of_ble_eq_true rfl⟩ rfl (Nat.le_of_ble_eq_true rfl) ⟨Nat.le_of_ble_eq_true rfl, Nat.le_of_ble_eq_true rfl⟩ ?_
    obtain ⟨q10, hres⟩ := am_ck_some hres
    obtain ⟨v11, M12, q13, hres⟩ := am_bd_some hres
    refine am_callV0 cx [.inr (.inr (.inl v2)), .inl (0 : Int32), .inl v7] dX11_lessen_22 cvX11_255 (mt0_takeTurned q13) (am_ke q10) ⟨rfl, rfl, Nat.le_of_ble_eq_true rfl, Nat.le_of_ble_eq_true rfl⟩ rfl (Nat.le_of_ble_eq_true rfl) ⟨Nat.le_of_ble_eq_true rfl, Nat.le_of_ble_eq_true rfl⟩ ?_
    refine am_aload_n cx 0 dX11_lessen_25 rfl ?_
    obtain ⟨q14, hres⟩ := am_ck_some hres
    obtain ⟨v15, M16, q17, hres⟩ := am_bd_some hres
    refine am_callV1 cx [] dX11_lessen_26 cvX11_281 (mt11_putMade q17) (am_ke q14) ⟨rfl, rfl, Nat.le_of_ble_eq_true rfl, Nat.le_of_ble_eq_true rfl⟩ rfl (Nat.le_of_ble_eq_true rfl) ⟨Nat.le_of_ble_eq_true rfl, Nat.le_of_ble_eq_true rfl⟩ ?_
    obtain ⟨rfl, rfl⟩ := am_fin hres
    exact am_iret cx dX11_lessen_29
  · have hres := am_ifp h hres
    refine am_iconst cx (v := (-1 : Int32)) dX11_lessen_10 (by decide) ?_
    obtain ⟨rfl, rfl⟩ := am_fin hres
    refine am_widen cx (k' := 4) (n' := 131) (Nat.le_of_ble_eq_true rfl) (Nat.le_of_ble_eq_true rfl) ?_
    exact am_iret cx dX11_lessen_11
set_option maxRecDepth 20000 in
theorem mt11_lessen {l : Launch} {v : Int32} {M M' : am_Mem} {N : Nat} {r0 : Nat} {x1 : Int32} (h : fn11_lessen N M r0 x1 = some (v, M')) : am_Met l yX11_lessen cX11_lessen 3 (some .int) rm11_lessen 4 131 [.inr (.inr (.inl r0)), .inl x1] M (some (.inl v)) M' := am_mk (by decide) (Nat.le_of_ble_eq_true rfl) (fun G cx => (sn11_lessen_b0 cx h))
-- java/lang/String.charAt
def fnJ0_charAt_5068e_b0  (w0 : Nat) (x1 : Int32) (M : am_Mem) : Option (Int32 × am_Mem) :=
  am_ck (am_isS w0) (am_bd (fnJ0_isLatin1_aae02 M w0) (fun v2 M3 => if v2 = 0 then am_ck (am_isS w0) (none) else am_ck (am_isS w0) (am_bd (fnJ1_charAt_3b067 M3 (8 + w0) x1) (fun v7 M8 => am_ck (decide (v7.toUInt32.toUInt16.toUInt32.toInt32 = v7)) (some (v7, M8))))))
def fnJ0_charAt_5068e (M : am_Mem) (w0 : Nat) (x1 : Int32) : Option (Int32 × am_Mem) := fnJ0_charAt_5068e_b0  w0 x1 M
def rmJ0_charAt_5068e : Room := { frames := 3, cells := 0, slots := 0, locals := 64 }
set_option maxRecDepth 20000 in
theorem snJ0_charAt_5068e_b0 {l : Launch} {G : am_G} {v : Int32} {M' : am_Mem}  (cx : am_Ctx l rmJ0_charAt_5068e yJ0_charAt_5068e cJ0_charAt_5068e 2 (some .char) (some (.inl v)) M' 0 0 G)  {w0 : Nat} {x1 : Int32} {M : am_Mem} (hres : fnJ0_charAt_5068e_b0  w0 x1 M = some (v, M')) : G 0 [(0, .inr (.inr (.inr w0))), (1, .inl x1)] [] M 0 0 := by
  unfold fnJ0_charAt_5068e_b0 at hres
  refine am_aload_nS cx 0 dJ0_charAt_5068e_0 rfl ?_
  obtain ⟨q1, hres⟩ := am_ck_some hres
  obtain ⟨v2, M3, q4, hres⟩ := am_bd_some hres
  refine am_callVT1 cx [] dJ0_charAt_5068e_1 cvJ0_492 (mtJ0_isLatin1_aae02 q4) q1 ⟨rfl, rfl, Nat.le_of_ble_eq_true rfl, Nat.le_of_ble_eq_true rfl⟩ rfl (Nat.le_of_ble_eq_true rfl) ⟨Nat.le_of_ble_eq_true rfl, Nat.le_of_ble_eq_true rfl⟩ ?_
  refine am_if_eq cx (tgt := 16) dJ0_charAt_5068e_4 (by decide) (fun h => ?_) (fun h => ?_)
  · have hres := am_ifp h hres
    refine am_aload_nS cx 0 dJ0_charAt_5068e_16 rfl ?_
    obtain ⟨q5, hres⟩ := am_ck_some hres
    refine am_sval cx dJ0_charAt_5068e_17 aw_7_97 q5 ?_
    refine am_iload_n cx 1 dJ0_charAt_5068e_20 rfl ?_
    exact am_no hres
  · have hres := am_ifn h hres
    refine am_aload_nS cx 0 dJ0_charAt_5068e_7 rfl ?_
    obtain ⟨q6, hres⟩ := am_ck_some hres
    refine am_sval cx dJ0_charAt_5068e_8 aw_7_97 q6 ?_
    refine am_iload_n cx 1 dJ0_charAt_5068e_11 rfl ?_
    obtain ⟨v7, M8, q9, hres⟩ := am_bd_some hres
    refine am_callS1 cx [.inr (.inr (.inr (8 + w0))), .inl x1] dJ0_charAt_5068e_12 csJ0_495 (mtJ1_charAt_3b067 q9)  ⟨rfl, rfl, Nat.le_of_ble_eq_true rfl, Nat.le_of_ble_eq_true rfl⟩ rfl (Nat.le_of_ble_eq_true rfl) ⟨Nat.le_of_ble_eq_true rfl, Nat.le_of_ble_eq_true rfl⟩ ?_
    obtain ⟨q10, hres⟩ := am_ck_some hres
    obtain ⟨rfl, rfl⟩ := am_fin hres
    exact am_nret cx (congrArg Value.int (of_decide_eq_true q10)) dJ0_charAt_5068e_15
set_option maxRecDepth 20000 in
theorem mtJ0_charAt_5068e {l : Launch} {v : Int32} {M M' : am_Mem} {w0 : Nat} {x1 : Int32} (h : fnJ0_charAt_5068e M w0 x1 = some (v, M')) : am_Met l yJ0_charAt_5068e cJ0_charAt_5068e 2 (some .char) rmJ0_charAt_5068e 0 0 [.inr (.inr (.inr w0)), .inl x1] M (some (.inl v)) M' := am_mk (by decide) (Nat.le_of_ble_eq_true rfl) (fun G cx => (snJ0_charAt_5068e_b0 cx h))
-- SquareCuts$GroupLayer.layGroups
def fn1_layGroups_b110 (N : Nat)  (a0 : Int32) (M : am_Mem) : Option (Int32 × am_Mem) :=
  am_ck (a0 == 0 || a0 == 1) (some (a0, M))
def fn1_layGroups_b82 (N : Nat)  (r0 : Nat) (r4 : Nat) (M : am_Mem) : Option (Int32 × am_Mem) :=
  am_ck (am_k M r0 1) (am_ck (am_k M (am_R M r0 0) 6) (am_bd (fn6_notchDepth M (am_R M r0 0)) (fun v3 M4 => am_ck (am_k M4 r4 0) (am_ck (am_k M4 r0 1) (am_ck (am_k M4 (am_R M4 r0 0) 6) (if (am_I (am_wI M4 r4 5 v3) (am_R M4 r0 0) 3) = (1 : Int32) then fn1_layGroups_b110 N  (1 : Int32) (am_wI M4 r4 5 v3) else fn1_layGroups_b110 N  (0 : Int32) (am_wI M4 r4 5 v3)))))))
def fn1_layGroups_b34B (N : Nat) (k34 : Nat → Nat → Nat → Int32 → Nat → Int32 → am_Mem → Option (Int32 × am_Mem)) (r0 : Nat) (r1 : Nat) (r2 : Nat) (x3 : Int32) (r4 : Nat) (x6 : Int32) (M : am_Mem) : Option (Int32 × am_Mem) :=
  if x3 ≤ x6 then fn1_layGroups_b82 N  r0 r4 M else am_ck (am_k M r0 1) (if x3 ≤ (am_I M r0 1) then fn1_layGroups_b82 N  r0 r4 M else am_bd (fn1_groupSum N M r0 r1 r2 x3) (fun v2 M3 => am_ck (am_k M3 r0 1) (am_ck (am_k M3 (am_R M3 r0 0) 6) (am_bd (fn6_notchWidth M3 (am_R M3 r0 0)) (fun v7 M8 => if v2 = v7 then am_ck (am_k M8 r0 1) (am_bd (fn1_layGroup N M8 r0 r1 r2 x3 r4) (fun v11 M12 => k34 r0 r1 r2 x3 r4 (x6 + (1 : Int32)) M12)) else some ((0 : Int32), M8))))))
def fn1_layGroups_b34 (N : Nat)  : Nat → Nat → Nat → Nat → Int32 → Nat → Int32 → am_Mem → Option (Int32 × am_Mem)
  | 0 => fun _ _ _ _ _ _ _ => none
  | i + 1 => fn1_layGroups_b34B N (fn1_layGroups_b34 N  i)
def fn1_layGroups_b0 (N : Nat)  (r0 : Nat) (r1 : Nat) (r2 : Nat) (x3 : Int32) (r4 : Nat) (M : am_Mem) : Option (Int32 × am_Mem) :=
  am_ck (am_k M r0 1) (am_bd (fn1_groupSum N (am_wI M r0 1 (0 : Int32)) r0 r1 r2 x3) (fun v2 M3 => am_ck (am_k M3 r4 0) (am_bd (fn0_begin M3 r4 v2 (0 : Int32)) (fun v6 M7 => am_ck (am_k M7 r0 1) (am_ck (am_k M7 (am_R M7 r0 0) 6) (am_bd (fn6_open M7 (am_R M7 r0 0) v2) (fun v11 M12 => fn1_layGroups_b34 N  N r0 r1 r2 x3 r4 (0 : Int32) M12)))))))
def fn1_layGroups (N : Nat) (M : am_Mem) (r0 : Nat) (r1 : Nat) (r2 : Nat) (x3 : Int32) (r4 : Nat) : Option (Int32 × am_Mem) := fn1_layGroups_b0 N r0 r1 r2 x3 r4 M
def rm1_layGroups : Room := { frames := 3, cells := 0, slots := 0, locals := 71 }
set_option maxRecDepth 20000 in
theorem sn1_layGroups_b110 {l : Launch} {G : am_G} {v : Int32} {M' : am_Mem} {N : Nat}  (cx : am_Ctx l rm1_layGroups yX1_layGroups cX1_layGroups 7 (some .boolean) (some (.inl v)) M' 0 0 G)  {a0 : Int32} {M : am_Mem} (hres : fn1_layGroups_b110 N  a0 M = some (v, M')) : G 110 [] [.inl a0] M 0 0 := by
  unfold fn1_layGroups_b110 at hres
  obtain ⟨q1, hres⟩ := am_ck_some hres
  obtain ⟨rfl, rfl⟩ := am_fin hres
  exact am_zret cx q1 dX1_layGroups_110
set_option maxRecDepth 20000 in
theorem sn1_layGroups_b82 {l : Launch} {G : am_G} {v : Int32} {M' : am_Mem} {N : Nat}  (cx : am_Ctx l rm1_layGroups yX1_layGroups cX1_layGroups 7 (some .boolean) (some (.inl v)) M' 0 0 G)  {r0 : Nat} {r4 : Nat} {M : am_Mem} (hres : fn1_layGroups_b82 N  r0 r4 M = some (v, M')) : G 82 [(0, .inr (.inr (.inl r0))), (4, .inr (.inr (.inl r4)))] [] M 0 0 := by
  unfold fn1_layGroups_b82 at hres
  refine am_aload cx 1 dX1_layGroups_82 rfl ?_
  refine am_aload_n cx 0 dX1_layGroups_84 rfl ?_
  obtain ⟨q1, hres⟩ := am_ck_some hres
  refine am_getR cx dX1_layGroups_85 flX1_14 (am_ke q1) ?_
  obtain ⟨q2, hres⟩ := am_ck_some hres
  obtain ⟨v3, M4, q5, hres⟩ := am_bd_some hres
  refine am_callV1 cx [] dX1_layGroups_88 cvX1_45 (mt6_notchDepth q5) (am_ke q2) ⟨rfl, rfl, Nat.le_of_ble_eq_true rfl, Nat.le_of_ble_eq_true rfl⟩ rfl (Nat.le_of_ble_eq_true rfl) ⟨Nat.le_of_ble_eq_true rfl, Nat.le_of_ble_eq_true rfl⟩ ?_
  obtain ⟨q6, hres⟩ := am_ck_some hres
  refine am_putI cx dX1_layGroups_91 fpX1_48 (fun h => by cases h) (am_ke q6) ?_
  refine am_aload_n cx 0 dX1_layGroups_94 rfl ?_
  obtain ⟨q7, hres⟩ := am_ck_some hres
  refine am_getR cx dX1_layGroups_95 flX1_14 (am_ke q7) ?_
  obtain ⟨q8, hres⟩ := am_ck_some hres
  refine am_getI cx dX1_layGroups_98 flX1_51 (am_ke q8) ?_
  refine am_iconst cx (v := (1 : Int32)) dX1_layGroups_101 (by decide) ?_
  refine am_icmp_ne cx (tgt := 109) dX1_layGroups_102 (by decide) (fun h => ?_) (fun h => ?_)
  · have hres := am_ifn h hres
    refine am_iconst cx (v := (0 : Int32)) dX1_layGroups_109 (by decide) ?_
    refine am_sub cx [] rfl ?_
    exact sn1_layGroups_b110 cx  hres
  · have hres := am_ifp h hres
    refine am_iconst cx (v := (1 : Int32)) dX1_layGroups_105 (by decide) ?_
    refine am_goto cx (tgt := 110) dX1_layGroups_106 (by decide) ?_
    refine am_sub cx [] rfl ?_
    exact sn1_layGroups_b110 cx  hres
set_option maxRecDepth 20000 in
theorem sn1_layGroups_b34B {l : Launch} {G : am_G} {v : Int32} {M' : am_Mem} {N : Nat} {k34 : Nat → Nat → Nat → Int32 → Nat → Int32 → am_Mem → Option (Int32 × am_Mem)} (cx : am_Ctx l rm1_layGroups yX1_layGroups cX1_layGroups 7 (some .boolean) (some (.inl v)) M' 0 0 G) (hk34 : ∀ (r0 : Nat) (r1 : Nat) (r2 : Nat) (x3 : Int32) (r4 : Nat) (x6 : Int32) (M : am_Mem), k34 r0 r1 r2 x3 r4 x6 M = some (v, M') → G 34 [(0, .inr (.inr (.inl r0))), (1, .inr (.inr (.inl r1))), (2, .inr (.inr (.inl r2))), (3, .inl x3), (4, .inr (.inr (.inl r4))), (6, .inl x6)] [] M 0 0) {r0 : Nat} {r1 : Nat} {r2 : Nat} {x3 : Int32} {r4 : Nat} {x6 : Int32} {M : am_Mem} (hres : fn1_layGroups_b34B N k34 r0 r1 r2 x3 r4 x6 M = some (v, M')) : G 34 [(0, .inr (.inr (.inl r0))), (1, .inr (.inr (.inl r1))), (2, .inr (.inr (.inl r2))), (3, .inl x3), (4, .inr (.inr (.inl r4))), (6, .inl x6)] [] M 0 0 := by
  unfold fn1_layGroups_b34B at hres
  refine am_iload cx 5 dX1_layGroups_34 rfl ?_
  refine am_iload_n cx 3 dX1_layGroups_36 rfl ?_
  refine am_icmp_ge cx (tgt := 82) dX1_layGroups_37 (by decide) (fun h => ?_) (fun h => ?_)
  · have hres := am_ifp h hres
    refine am_sub cx [0, 4] rfl ?_
    exact sn1_layGroups_b82 cx  hres
  · have hres := am_ifn h hres
    refine am_aload_n cx 0 dX1_layGroups_40 rfl ?_
    obtain ⟨q1, hres⟩ := am_ck_some hres
    refine am_getI cx dX1_layGroups_41 flX1_20 (am_ke q1) ?_
    refine am_iload_n cx 3 dX1_layGroups_44 rfl ?_
    refine am_icmp_ge cx (tgt := 82) dX1_layGroups_45 (by decide) (fun h => ?_) (fun h => ?_)
    · have hres := am_ifp h hres
      refine am_sub cx [0, 4] rfl ?_
      exact sn1_layGroups_b82 cx  hres
    · have hres := am_ifn h hres
      refine am_aload_n cx 0 dX1_layGroups_48 rfl ?_
      refine am_aload_n cx 1 dX1_layGroups_49 rfl ?_
      refine am_aload_n cx 2 dX1_layGroups_50 rfl ?_
      refine am_iload_n cx 3 dX1_layGroups_51 rfl ?_
      obtain ⟨v2, M3, q4, hres⟩ := am_bd_some hres
      refine am_callV1 cx [.inr (.inr (.inl r1)), .inr (.inr (.inl r2)), .inl x3] dX1_layGroups_52 cvX1_24 (mt1_groupSum q4) (am_ke q1) ⟨rfl, rfl, Nat.le_of_ble_eq_true rfl, Nat.le_of_ble_eq_true rfl⟩ rfl (Nat.le_of_ble_eq_true rfl) ⟨Nat.le_of_ble_eq_true rfl, Nat.le_of_ble_eq_true rfl⟩ ?_
      refine am_aload_n cx 0 dX1_layGroups_55 rfl ?_
      obtain ⟨q5, hres⟩ := am_ck_some hres
      refine am_getR cx dX1_layGroups_56 flX1_14 (am_ke q5) ?_
      obtain ⟨q6, hres⟩ := am_ck_some hres
      obtain ⟨v7, M8, q9, hres⟩ := am_bd_some hres
      refine am_callV1 cx [] dX1_layGroups_59 cvX1_37 (mt6_notchWidth q9) (am_ke q6) ⟨rfl, rfl, Nat.le_of_ble_eq_true rfl, Nat.le_of_ble_eq_true rfl⟩ rfl (Nat.le_of_ble_eq_true rfl) ⟨Nat.le_of_ble_eq_true rfl, Nat.le_of_ble_eq_true rfl⟩ ?_
      refine am_icmp_eq cx (tgt := 67) dX1_layGroups_62 (by decide) (fun h => ?_) (fun h => ?_)
      · have hres := am_ifp h hres
        refine am_aload_n cx 0 dX1_layGroups_67 rfl ?_
        refine am_aload_n cx 1 dX1_layGroups_68 rfl ?_
        refine am_aload_n cx 2 dX1_layGroups_69 rfl ?_
        refine am_iload_n cx 3 dX1_layGroups_70 rfl ?_
        refine am_aload cx 4 dX1_layGroups_71 rfl ?_
        obtain ⟨q10, hres⟩ := am_ck_some hres
        obtain ⟨v11, M12, q13, hres⟩ := am_bd_some hres
        refine am_callV0 cx [.inr (.inr (.inl r1)), .inr (.inr (.inl r2)), .inl x3, .inr (.inr (.inl r4))] dX1_layGroups_73 cvX1_41 (mt1_layGroup q13) (am_ke q10) ⟨rfl, rfl, Nat.le_of_ble_eq_true rfl, Nat.le_of_ble_eq_true rfl⟩ rfl (Nat.le_of_ble_eq_true rfl) ⟨Nat.le_of_ble_eq_true rfl, Nat.le_of_ble_eq_true rfl⟩ ?_
        refine am_iincw cx (lv' := [(0, .inr (.inr (.inl r0))), (1, .inr (.inr (.inl r1))), (2, .inr (.inr (.inl r2))), (3, .inl x3), (4, .inr (.inr (.inl r4))), (6, .inl (x6 + (1 : Int32)))]) (w := (1 : Int32)) 5 dX1_layGroups_76 (by decide) rfl (Nat.le_of_ble_eq_true rfl) rfl ?_
        refine am_goto cx (tgt := 34) dX1_layGroups_79 (by decide) ?_
        exact hk34 _ _ _ _ _ _ _ hres
      · have hres := am_ifn h hres
        refine am_iconst cx (v := (0 : Int32)) dX1_layGroups_65 (by decide) ?_
        obtain ⟨rfl, rfl⟩ := am_fin hres
        exact am_zret cx rfl dX1_layGroups_66
set_option maxRecDepth 20000 in
theorem sn1_layGroups_b34 {l : Launch} {G : am_G} {v : Int32} {M' : am_Mem} {N : Nat}  (cx : am_Ctx l rm1_layGroups yX1_layGroups cX1_layGroups 7 (some .boolean) (some (.inl v)) M' 0 0 G)  (i : Nat) : ∀ (r0 : Nat) (r1 : Nat) (r2 : Nat) (x3 : Int32) (r4 : Nat) (x6 : Int32) (M : am_Mem), fn1_layGroups_b34 N  i r0 r1 r2 x3 r4 x6 M = some (v, M') → G 34 [(0, .inr (.inr (.inl r0))), (1, .inr (.inr (.inl r1))), (2, .inr (.inr (.inl r2))), (3, .inl x3), (4, .inr (.inr (.inl r4))), (6, .inl x6)] [] M 0 0 := by
  induction i with
  | zero => intro r0 r1 r2 x3 r4 x6 M hres; exact am_no hres
  | succ i ih => intro r0 r1 r2 x3 r4 x6 M hres; exact sn1_layGroups_b34B cx ih hres
set_option maxRecDepth 20000 in
theorem sn1_layGroups_b0 {l : Launch} {G : am_G} {v : Int32} {M' : am_Mem} {N : Nat}  (cx : am_Ctx l rm1_layGroups yX1_layGroups cX1_layGroups 7 (some .boolean) (some (.inl v)) M' 0 0 G)  {r0 : Nat} {r1 : Nat} {r2 : Nat} {x3 : Int32} {r4 : Nat} {M : am_Mem} (hres : fn1_layGroups_b0 N  r0 r1 r2 x3 r4 M = some (v, M')) : G 0 [(0, .inr (.inr (.inl r0))), (1, .inr (.inr (.inl r1))), (2, .inr (.inr (.inl r2))), (3, .inl x3), (4, .inr (.inr (.inl r4)))] [] M 0 0 := by
  unfold fn1_layGroups_b0 at hres
  refine am_aload_n cx 0 dX1_layGroups_0 rfl ?_
  refine am_iconst cx (v := (0 : Int32)) dX1_layGroups_1 (by decide) ?_
  obtain ⟨q1, hres⟩ := am_ck_some hres
  refine am_putI cx dX1_layGroups_2 fpX1_20 (fun h => by cases h) (am_ke q1) ?_
  refine am_aload_n cx 0 dX1_layGroups_5 rfl ?_
  refine am_aload_n cx 1 dX1_layGroups_6 rfl ?_
  refine am_aload_n cx 2 dX1_layGroups_7 rfl ?_
  refine am_iload_n cx 3 dX1_layGroups_8 rfl ?_
  obtain ⟨v2, M3, q4, hres⟩ := am_bd_some hres
  refine am_callV1 cx [.inr (.inr (.inl r1)), .inr (.inr (.inl r2)), .inl x3] dX1_layGroups_9 cvX1_24 (mt1_groupSum q4) (am_ke q1) ⟨rfl, rfl, Nat.le_of_ble_eq_true rfl, Nat.le_of_ble_eq_true rfl⟩ rfl (Nat.le_of_ble_eq_true rfl) ⟨Nat.le_of_ble_eq_true rfl, Nat.le_of_ble_eq_true rfl⟩ ?_
  refine am_istore cx (lv' := [(0, .inr (.inr (.inl r0))), (1, .inr (.inr (.inl r1))), (2, .inr (.inr (.inl r2))), (3, .inl x3), (4, .inr (.inr (.inl r4))), (5, .inl v2)]) dX1_layGroups_12 (Nat.le_of_ble_eq_true rfl) rfl ?_
  refine am_aload cx 4 dX1_layGroups_14 rfl ?_
  refine am_iload cx 5 dX1_layGroups_16 rfl ?_
  refine am_iconst cx (v := (0 : Int32)) dX1_layGroups_18 (by decide) ?_
  obtain ⟨q5, hres⟩ := am_ck_some hres
  obtain ⟨v6, M7, q8, hres⟩ := am_bd_some hres
  refine am_callV0 cx [.inl v2, .inl (0 : Int32)] dX1_layGroups_19 cvX1_28 (mt0_begin q8) (am_ke q5) ⟨rfl, rfl, Nat.le_of_ble_eq_true rfl, Nat.le_of_ble_eq_true rfl⟩ rfl (Nat.le_of_ble_eq_true rfl) ⟨Nat.le_of_ble_eq_true rfl, Nat.le_of_ble_eq_true rfl⟩ ?_
  refine am_aload_n cx 0 dX1_layGroups_22 rfl ?_
  obtain ⟨q9, hres⟩ := am_ck_some hres
  refine am_getR cx dX1_layGroups_23 flX1_14 (am_ke q9) ?_
  refine am_iload cx 5 dX1_layGroups_26 rfl ?_
  obtain ⟨q10, hres⟩ := am_ck_some hres
  obtain ⟨v11, M12, q13, hres⟩ := am_bd_some hres
  refine am_callV0 cx [.inl v2] dX1_layGroups_28 cvX1_34 (mt6_open q13) (am_ke q10) ⟨rfl, rfl, Nat.le_of_ble_eq_true rfl, Nat.le_of_ble_eq_true rfl⟩ rfl (Nat.le_of_ble_eq_true rfl) ⟨Nat.le_of_ble_eq_true rfl, Nat.le_of_ble_eq_true rfl⟩ ?_
  refine am_iconst cx (v := (0 : Int32)) dX1_layGroups_31 (by decide) ?_
  refine am_istore cx (lv' := [(0, .inr (.inr (.inl r0))), (1, .inr (.inr (.inl r1))), (2, .inr (.inr (.inl r2))), (3, .inl x3), (4, .inr (.inr (.inl r4))), (5, .inl v2), (6, .inl (0 : Int32))]) dX1_layGroups_32 (Nat.le_of_ble_eq_true rfl) rfl ?_
  refine am_sub cx [0, 1, 2, 3, 4, 6] rfl ?_
  exact sn1_layGroups_b34 cx  N _ _ _ _ _ _ _ hres
set_option maxRecDepth 20000 in
theorem mt1_layGroups {l : Launch} {v : Int32} {M M' : am_Mem} {N : Nat} {r0 : Nat} {r1 : Nat} {r2 : Nat} {x3 : Int32} {r4 : Nat} (h : fn1_layGroups N M r0 r1 r2 x3 r4 = some (v, M')) : am_Met l yX1_layGroups cX1_layGroups 7 (some .boolean) rm1_layGroups 0 0 [.inr (.inr (.inl r0)), .inr (.inr (.inl r1)), .inr (.inr (.inl r2)), .inl x3, .inr (.inr (.inl r4))] M (some (.inl v)) M' := am_mk (by decide) (Nat.le_of_ble_eq_true rfl) (fun G cx => (sn1_layGroups_b0 cx h))
