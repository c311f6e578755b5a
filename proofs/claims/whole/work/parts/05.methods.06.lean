-- SquareCutsModel.crossesOf
def fn12_crossesOf_b48 (N : Nat) (k4 : Nat → Int32 → Int32 → Int32 → am_Mem → Option (Int32 × am_Mem)) (r0 : Nat) (x1 : Int32) (x2 : Int32) (x3 : Int32) (M : am_Mem) : Option (Int32 × am_Mem) :=
  k4 r0 x1 x2 (x3 + (1 : Int32)) M
def fn12_crossesOf_b46 (N : Nat) (k4 : Nat → Int32 → Int32 → Int32 → am_Mem → Option (Int32 × am_Mem)) (a0 : Int32) (a1 : Int32) (r0 : Nat) (x1 : Int32) (x3 : Int32) (M : am_Mem) : Option (Int32 × am_Mem) :=
  fn12_crossesOf_b48 N k4 r0 x1 (a0 + a1) x3 M
def fn12_crossesOf_b4B (N : Nat) (k4 : Nat → Int32 → Int32 → Int32 → am_Mem → Option (Int32 × am_Mem)) (r0 : Nat) (x1 : Int32) (x2 : Int32) (x3 : Int32) (M : am_Mem) : Option (Int32 × am_Mem) :=
  am_ck (am_k M r0 12) (am_bd (fn12_of M r0 x1 (0 : Int32)) (fun v2 M3 => if v2 ≤ x3 then some (x2, M3) else am_ck (am_k M3 r0 12) (am_bd (fn12_of M3 r0 x1 ((4 : Int32) + x3)) (fun v6 M7 => am_ck (am_k M7 r0 12) (am_bd (fn12_of M7 r0 x1 ((44 : Int32) + x3)) (fun v10 M11 => am_ck (am_k M11 r0 12) (am_bd (fn12_corners N M11 r0 x1 v6 v10) (fun v14 M15 => if v14 = (4 : Int32) then fn12_crossesOf_b46 N k4 x2 (1 : Int32) r0 x1 x3 M15 else fn12_crossesOf_b46 N k4 x2 (0 : Int32) r0 x1 x3 M15))))))))
def fn12_crossesOf_b4 (N : Nat)  : Nat → Nat → Int32 → Int32 → Int32 → am_Mem → Option (Int32 × am_Mem)
  | 0 => fun _ _ _ _ _ => none
  | i + 1 => fn12_crossesOf_b4B N (fn12_crossesOf_b4 N  i)
def fn12_crossesOf_b0 (N : Nat)  (r0 : Nat) (x1 : Int32) (M : am_Mem) : Option (Int32 × am_Mem) :=
  fn12_crossesOf_b4 N  N r0 x1 (0 : Int32) (0 : Int32) M
def fn12_crossesOf (N : Nat) (M : am_Mem) (r0 : Nat) (x1 : Int32) : Option (Int32 × am_Mem) := fn12_crossesOf_b0 N r0 x1 M
def rm12_crossesOf : Room := { frames := 2, cells := 0, slots := 0, locals := 48 }
set_option maxRecDepth 20000 in
theorem sn12_crossesOf_b48 {l : Launch} {G : am_G} {v : Int32} {M' : am_Mem} {N : Nat} {k4 : Nat → Int32 → Int32 → Int32 → am_Mem → Option (Int32 × am_Mem)} (cx : am_Ctx l rm12_crossesOf yX12_crossesOf cX12_crossesOf 4 (some .int) (some (.inl v)) M' 0 0 G) (hk4 : ∀ (r0 : Nat) (x1 : Int32) (x2 : Int32) (x3 : Int32) (M : am_Mem), k4 r0 x1 x2 x3 M = some (v, M') → G 4 [(0, .inr (.inr (.inl r0))), (1, .inl x1), (2, .inl x2), (3, .inl x3)] [] M 0 0) {r0 : Nat} {x1 : Int32} {x2 : Int32} {x3 : Int32} {M : am_Mem} (hres : fn12_crossesOf_b48 N k4 r0 x1 x2 x3 M = some (v, M')) : G 48 [(0, .inr (.inr (.inl r0))), (1, .inl x1), (2, .inl x2), (3, .inl x3)] [] M 0 0 := by
  unfold fn12_crossesOf_b48 at hres
  refine am_iincw cx (lv' := [(0, .inr (.inr (.inl r0))), (1, .inl x1), (2, .inl x2), (3, .inl (x3 + (1 : Int32)))]) (w := (1 : Int32)) 3 dX12_crossesOf_48 (by decide) rfl (Nat.le_of_ble_eq_true rfl) rfl ?_
  refine am_goto cx (tgt := 4) dX12_crossesOf_51 (by decide) ?_
  exact hk4 _ _ _ _ _ hres
set_option maxRecDepth 20000 in
theorem sn12_crossesOf_b46 {l : Launch} {G : am_G} {v : Int32} {M' : am_Mem} {N : Nat} {k4 : Nat → Int32 → Int32 → Int32 → am_Mem → Option (Int32 × am_Mem)} (cx : am_Ctx l rm12_crossesOf yX12_crossesOf cX12_crossesOf 4 (some .int) (some (.inl v)) M' 0 0 G) (hk4 : ∀ (r0 : Nat) (x1 : Int32) (x2 : Int32) (x3 : Int32) (M : am_Mem), k4 r0 x1 x2 x3 M = some (v, M') → G 4 [(0, .inr (.inr (.inl r0))), (1, .inl x1), (2, .inl x2), (3, .inl x3)] [] M 0 0) {a0 : Int32} {a1 : Int32} {r0 : Nat} {x1 : Int32} {x3 : Int32} {M : am_Mem} (hres : fn12_crossesOf_b46 N k4 a0 a1 r0 x1 x3 M = some (v, M')) : G 46 [(0, .inr (.inr (.inl r0))), (1, .inl x1), (3, .inl x3)] [.inl a1, .inl a0] M 0 0 := by
  unfold fn12_crossesOf_b46 at hres
  refine am_iadd cx dX12_crossesOf_46 ?_
  refine am_istore_n cx (lv' := [(0, .inr (.inr (.inl r0))), (1, .inl x1), (2, .inl (a0 + a1)), (3, .inl x3)]) dX12_crossesOf_47 (Nat.le_of_ble_eq_true rfl) rfl ?_
  exact sn12_crossesOf_b48 cx hk4 hres
set_option maxRecDepth 20000 in
theorem sn12_crossesOf_b4B {l : Launch} {G : am_G} {v : Int32} {M' : am_Mem} {N : Nat} {k4 : Nat → Int32 → Int32 → Int32 → am_Mem → Option (Int32 × am_Mem)} (cx : am_Ctx l rm12_crossesOf yX12_crossesOf cX12_crossesOf 4 (some .int) (some (.inl v)) M' 0 0 G) (hk4 : ∀ (r0 : Nat) (x1 : Int32) (x2 : Int32) (x3 : Int32) (M : am_Mem), k4 r0 x1 x2 x3 M = some (v, M') → G 4 [(0, .inr (.inr (.inl r0))), (1, .inl x1), (2, .inl x2), (3, .inl x3)] [] M 0 0) {r0 : Nat} {x1 : Int32} {x2 : Int32} {x3 : Int32} {M : am_Mem} (hres : fn12_crossesOf_b4B N k4 r0 x1 x2 x3 M = some (v, M')) : G 4 [(0, .inr (.inr (.inl r0))), (1, .inl x1), (2, .inl x2), (3, .inl x3)] [] M 0 0 := by
  unfold fn12_crossesOf_b4B at hres
  refine am_iload_n cx 3 dX12_crossesOf_4 rfl ?_
  refine am_aload_n cx 0 dX12_crossesOf_5 rfl ?_
  refine am_iload_n cx 1 dX12_crossesOf_6 rfl ?_
  refine am_iconst cx (v := (0 : Int32)) dX12_crossesOf_7 (by decide) ?_
  obtain ⟨q1, hres⟩ := am_ck_some hres
  obtain ⟨v2, M3, q4, hres⟩ := am_bd_some hres
  refine am_callV1 cx [.inl x1, .inl (0 : Int32)] dX12_crossesOf_8 cvX12_306 (mt12_of q4) (am_ke q1) ⟨rfl, rfl, Nat.le_of_ble_eq_true rfl, Nat.le_of_ble_eq_true rfl⟩ rfl (Nat.le_of_ble_eq_true rfl) ⟨Nat.le_of_ble_eq_true rfl, Nat.le_of_ble_eq_true rfl⟩ ?_
  refine am_icmp_ge cx (tgt := 54) dX12_crossesOf_11 (by decide) (fun h => ?_) (fun h => ?_)
  · have hres := am_ifp h hres
    refine am_iload_n cx 2 dX12_crossesOf_54 rfl ?_
    obtain ⟨rfl, rfl⟩ := am_fin hres
    exact am_iret cx dX12_crossesOf_55
  · have hres := am_ifn h hres
    refine am_iload_n cx 2 dX12_crossesOf_14 rfl ?_
    refine am_aload_n cx 0 dX12_crossesOf_15 rfl ?_
    refine am_iload_n cx 1 dX12_crossesOf_16 rfl ?_
    refine am_aload_n cx 0 dX12_crossesOf_17 rfl ?_
    refine am_iload_n cx 1 dX12_crossesOf_18 rfl ?_
    refine am_iconst cx (v := (4 : Int32)) dX12_crossesOf_19 (by decide) ?_
    refine am_iload_n cx 3 dX12_crossesOf_20 rfl ?_
    refine am_iadd cx dX12_crossesOf_21 ?_
    obtain ⟨q5, hres⟩ := am_ck_some hres
    obtain ⟨v6, M7, q8, hres⟩ := am_bd_some hres
    refine am_callV1 cx [.inl x1, .inl ((4 : Int32) + x3)] dX12_crossesOf_22 cvX12_306 (mt12_of q8) (am_ke q5) ⟨rfl, rfl, Nat.le_of_ble_eq_true rfl, Nat.le_of_ble_eq_true rfl⟩ rfl (Nat.le_of_ble_eq_true rfl) ⟨Nat.le_of_ble_eq_true rfl, Nat.le_of_ble_eq_true rfl⟩ ?_
    refine am_aload_n cx 0 dX12_crossesOf_25 rfl ?_
    refine am_iload_n cx 1 dX12_crossesOf_26 rfl ?_
    refine am_bipush cx (v := (44 : Int32)) dX12_crossesOf_27 (by decide) ?_
    refine am_iload_n cx 3 dX12_crossesOf_29 rfl ?_
    refine am_iadd cx dX12_crossesOf_30 ?_
    obtain ⟨q9, hres⟩ := am_ck_some hres
    obtain ⟨v10, M11, q12, hres⟩ := am_bd_some hres
    refine am_callV1 cx [.inl x1, .inl ((44 : Int32) + x3)] dX12_crossesOf_31 cvX12_306 (mt12_of q12) (am_ke q9) ⟨rfl, rfl, Nat.le_of_ble_eq_true rfl, Nat.le_of_ble_eq_true rfl⟩ rfl (Nat.le_of_ble_eq_true rfl) ⟨Nat.le_of_ble_eq_true rfl, Nat.le_of_ble_eq_true rfl⟩ ?_
    obtain ⟨q13, hres⟩ := am_ck_some hres
    obtain ⟨v14, M15, q16, hres⟩ := am_bd_some hres
    refine am_callV1 cx [.inl x1, .inl v6, .inl v10] dX12_crossesOf_34 cvX12_313 (mt12_corners q16) (am_ke q13) ⟨rfl, rfl, Nat.le_of_ble_eq_true rfl, Nat.le_of_ble_eq_true rfl⟩ rfl (Nat.le_of_ble_eq_true rfl) ⟨Nat.le_of_ble_eq_true rfl, Nat.le_of_ble_eq_true rfl⟩ ?_
    refine am_iconst cx (v := (4 : Int32)) dX12_crossesOf_37 (by decide) ?_
    refine am_icmp_ne cx (tgt := 45) dX12_crossesOf_38 (by decide) (fun h => ?_) (fun h => ?_)
    · have hres := am_ifn h hres
      refine am_iconst cx (v := (0 : Int32)) dX12_crossesOf_45 (by decide) ?_
      refine am_sub cx [0, 1, 3] rfl ?_
      exact sn12_crossesOf_b46 cx hk4 hres
    · have hres := am_ifp h hres
      refine am_iconst cx (v := (1 : Int32)) dX12_crossesOf_41 (by decide) ?_
      refine am_goto cx (tgt := 46) dX12_crossesOf_42 (by decide) ?_
      refine am_sub cx [0, 1, 3] rfl ?_
      exact sn12_crossesOf_b46 cx hk4 hres
set_option maxRecDepth 20000 in
theorem sn12_crossesOf_b4 {l : Launch} {G : am_G} {v : Int32} {M' : am_Mem} {N : Nat}  (cx : am_Ctx l rm12_crossesOf yX12_crossesOf cX12_crossesOf 4 (some .int) (some (.inl v)) M' 0 0 G)  (i : Nat) : ∀ (r0 : Nat) (x1 : Int32) (x2 : Int32) (x3 : Int32) (M : am_Mem), fn12_crossesOf_b4 N  i r0 x1 x2 x3 M = some (v, M') → G 4 [(0, .inr (.inr (.inl r0))), (1, .inl x1), (2, .inl x2), (3, .inl x3)] [] M 0 0 := by
  induction i with
  | zero => intro r0 x1 x2 x3 M hres; exact am_no hres
  | succ i ih => intro r0 x1 x2 x3 M hres; exact sn12_crossesOf_b4B cx ih hres
set_option maxRecDepth 20000 in
theorem sn12_crossesOf_b0 {l : Launch} {G : am_G} {v : Int32} {M' : am_Mem} {N : Nat}  (cx : am_Ctx l rm12_crossesOf yX12_crossesOf cX12_crossesOf 4 (some .int) (some (.inl v)) M' 0 0 G)  {r0 : Nat} {x1 : Int32} {M : am_Mem} (hres : fn12_crossesOf_b0 N  r0 x1 M = some (v, M')) : G 0 [(0, .inr (.inr (.inl r0))), (1, .inl x1)] [] M 0 0 := by
  unfold fn12_crossesOf_b0 at hres
  refine am_iconst cx (v := (0 : Int32)) dX12_crossesOf_0 (by decide) ?_
  refine am_istore_n cx (lv' := [(0, .inr (.inr (.inl r0))), (1, .inl x1), (2, .inl (0 : Int32))]) dX12_crossesOf_1 (Nat.le_of_ble_eq_true rfl) rfl ?_
  refine am_iconst cx (v := (0 : Int32)) dX12_crossesOf_2 (by decide) ?_
  refine am_istore_n cx (lv' := [(0, .inr (.inr (.inl r0))), (1, .inl x1), (2, .inl (0 : Int32)), (3, .inl (0 : Int32))]) dX12_crossesOf_3 (Nat.le_of_ble_eq_true rfl) rfl ?_
  exact sn12_crossesOf_b4 cx  N _ _ _ _ _ hres
set_option maxRecDepth 20000 in
theorem mt12_crossesOf {l : Launch} {v : Int32} {M M' : am_Mem} {N : Nat} {r0 : Nat} {x1 : Int32} (h : fn12_crossesOf N M r0 x1 = some (v, M')) : am_Met l yX12_crossesOf cX12_crossesOf 4 (some .int) rm12_crossesOf 0 0 [.inr (.inr (.inl r0)), .inl x1] M (some (.inl v)) M' := am_mk (by decide) (Nat.le_of_ble_eq_true rfl) (fun G cx => (sn12_crossesOf_b0 cx h))
-- SquareCutsModel.rect
def fn12_rect_b25 (N : Nat)   (M : am_Mem) : Option (Int32 × am_Mem) :=
  some ((-1 : Int32), M)
def fn12_rect_b122 (N : Nat)  (a0 : Int32) (M : am_Mem) : Option (Int32 × am_Mem) :=
  some (a0, M)
def fn12_rect_b136 (N : Nat)  (a0 : Int32) (M : am_Mem) : Option (Int32 × am_Mem) :=
  some (a0, M)
def fn12_rect_b0 (N : Nat)  (r0 : Nat) (x1 : Int32) (x2 : Int32) (M : am_Mem) : Option (Int32 × am_Mem) :=
  am_ck (am_k M r0 12) (am_bd (fn12_isRect (am_wI M r0 0 (0 : Int32)) r0 x1) (fun v2 M3 => if v2 = 0 then fn12_rect_b25 N   M3 else am_bd (fn12_within M3 x2.toInt64 (0 : Int64) (7 : Int64)) (fun v5 M6 => if v5 = 0 then fn12_rect_b25 N   M6 else if x2 = (7 : Int32) then am_ck (am_k M6 r0 12) (am_bd (fn12_kindOf M6 r0 x1) (fun v47 M48 => some (v47, M48))) else am_ck (am_k M6 r0 12) (am_bd (fn12_doesFail M6 r0 x1) (fun v9 M10 => if v9 = 0 then if x2 = (0 : Int32) then (am_ck (am_k M10 r0 12) (am_bd (fn12_of M10 r0 x1 (0 : Int32)) (fun v14 M15 => some (v14, M15)))) else (if x2 = (1 : Int32) then (am_ck (am_k M10 r0 12) (am_bd (fn12_of M10 r0 x1 (1 : Int32)) (fun v19 M20 => some (v19, M20)))) else (if x2 = (2 : Int32) then (am_ck (am_k M10 r0 12) (am_bd (fn12_of M10 r0 x1 (2 : Int32)) (fun v24 M25 => some (v24, M25)))) else (if x2 = (3 : Int32) then (am_ck (am_k M10 r0 12) (am_bd (fn12_arePerfect N M10 r0 x1) (fun v29 M30 => if v29 = 0 then fn12_rect_b122 N  (0 : Int32) M30 else fn12_rect_b122 N  (1 : Int32) M30))) else (if x2 = (4 : Int32) then (am_ck (am_k M10 r0 12) (am_bd (fn12_partsOf N M10 r0 x1) (fun v34 M35 => if v34 = 0 then fn12_rect_b136 N  (1 : Int32) M35 else fn12_rect_b136 N  (0 : Int32) M35))) else (if x2 = (5 : Int32) then (am_ck (am_k M10 r0 12) (am_bd (fn12_partsOf N M10 r0 x1) (fun v39 M40 => some (v39, M40)))) else (am_ck (am_k M10 r0 12) (am_bd (fn12_crossesOf N M10 r0 x1) (fun v43 M44 => some (v43, M44))))))))) else some ((-2 : Int32), M10))))))
def fn12_rect (N : Nat) (M : am_Mem) (r0 : Nat) (x1 : Int32) (x2 : Int32) : Option (Int32 × am_Mem) := fn12_rect_b0 N r0 x1 x2 M
def rm12_rect : Room := { frames := 3, cells := 0, slots := 0, locals := 79 }
set_option maxRecDepth 20000 in
theorem sn12_rect_b25 {l : Launch} {G : am_G} {v : Int32} {M' : am_Mem} {N : Nat}  (cx : am_Ctx l rm12_rect yX12_rect cX12_rect 3 (some .int) (some (.inl v)) M' 0 0 G)   {M : am_Mem} (hres : fn12_rect_b25 N   M = some (v, M')) : G 25 [] [] M 0 0 := by
  unfold fn12_rect_b25 at hres
  refine am_iconst cx (v := (-1 : Int32)) dX12_rect_25 (by decide) ?_
  obtain ⟨rfl, rfl⟩ := am_fin hres
  exact am_iret cx dX12_rect_26
set_option maxRecDepth 20000 in
theorem sn12_rect_b122 {l : Launch} {G : am_G} {v : Int32} {M' : am_Mem} {N : Nat}  (cx : am_Ctx l rm12_rect yX12_rect cX12_rect 3 (some .int) (some (.inl v)) M' 0 0 G)  {a0 : Int32} {M : am_Mem} (hres : fn12_rect_b122 N  a0 M = some (v, M')) : G 122 [] [.inl a0] M 0 0 := by
  unfold fn12_rect_b122 at hres
  obtain ⟨rfl, rfl⟩ := am_fin hres
  exact am_iret cx dX12_rect_122
set_option maxRecDepth 20000 in
theorem sn12_rect_b136 {l : Launch} {G : am_G} {v : Int32} {M' : am_Mem} {N : Nat}  (cx : am_Ctx l rm12_rect yX12_rect cX12_rect 3 (some .int) (some (.inl v)) M' 0 0 G)  {a0 : Int32} {M : am_Mem} (hres : fn12_rect_b136 N  a0 M = some (v, M')) : G 136 [] [.inl a0] M 0 0 := by
  unfold fn12_rect_b136 at hres
  obtain ⟨rfl, rfl⟩ := am_fin hres
  exact am_iret cx dX12_rect_136
set_option maxRecDepth 20000 in
theorem sn12_rect_b0 {l : Launch} {G : am_G} {v : Int32} {M' : am_Mem} {N : Nat}  (cx : am_Ctx l rm12_rect yX12_rect cX12_rect 3 (some .int) (some (.inl v)) M' 0 0 G)  {r0 : Nat} {x1 : Int32} {x2 : Int32} {M : am_Mem} (hres : fn12_rect_b0 N  r0 x1 x2 M = some (v, M')) : G 0 [(0, .inr (.inr (.inl r0))), (1, .inl x1), (2, .inl x2)] [] M 0 0 := by
  unfold fn12_rect_b0 at hres
  refine am_aload_n cx 0 dX12_rect_0 rfl ?_
  refine am_iconst cx (v := (0 : Int32)) dX12_rect_1 (by decide) ?_
  obtain ⟨q1, hres⟩ := am_ck_some hres
  refine am_putI cx dX12_rect_2 fpX12_103 (fun h => by cases h) (am_ke q1) ?_
  refine am_aload_n cx 0 dX12_rect_5 rfl ?_
  refine am_iload_n cx 1 dX12_rect_6 rfl ?_
  obtain ⟨v2, M3, q4, hres⟩ := am_bd_some hres
  refine am_callV1 cx [.inl x1] dX12_rect_7 cvX12_316 (mt12_isRect q4) (am_ke q1) ⟨rfl, rfl, Nat.le_of_ble_eq_true rfl, Nat.le_of_ble_eq_true rfl⟩ rfl (Nat.le_of_ble_eq_true rfl) ⟨Nat.le_of_ble_eq_true rfl, Nat.le_of_ble_eq_true rfl⟩ ?_
  refine am_if_eq cx (tgt := 25) dX12_rect_10 (by decide) (fun h => ?_) (fun h => ?_)
  · have hres := am_ifp h hres
    refine am_sub cx [] rfl ?_
    exact sn12_rect_b25 cx  hres
  · have hres := am_ifn h hres
    refine am_iload_n cx 2 dX12_rect_13 rfl ?_
    refine am_i2l cx dX12_rect_14 ?_
    refine am_lconst cx (v := (0 : Int64)) dX12_rect_15 (by decide) ?_
    refine am_ldc2 cx dX12_rect_16 aw_6_114 ?_
    obtain ⟨v5, M6, q7, hres⟩ := am_bd_some hres
    refine am_callS1 cx [.inr (.inl x2.toInt64), .inr (.inl (0 : Int64)), .inr (.inl (7 : Int64))] dX12_rect_19 csX12_141 (mt12_within q7)  ⟨rfl, rfl, Nat.le_of_ble_eq_true rfl, Nat.le_of_ble_eq_true rfl⟩ rfl (Nat.le_of_ble_eq_true rfl) ⟨Nat.le_of_ble_eq_true rfl, Nat.le_of_ble_eq_true rfl⟩ ?_
    refine am_if_ne cx (tgt := 27) dX12_rect_22 (by decide) (fun h => ?_) (fun h => ?_)
    · have hres := am_ifn h hres
      refine am_iload_n cx 2 dX12_rect_27 rfl ?_
      refine am_bipush cx (v := (7 : Int32)) dX12_rect_28 (by decide) ?_
      refine am_icmp_ne cx (tgt := 39) dX12_rect_30 (by decide) (fun h => ?_) (fun h => ?_)
      · have hres := am_ifn h hres
        refine am_aload_n cx 0 dX12_rect_39 rfl ?_
        refine am_iload_n cx 1 dX12_rect_40 rfl ?_
        obtain ⟨q8, hres⟩ := am_ck_some hres
        obtain ⟨v9, M10, q11, hres⟩ := am_bd_some hres
        refine am_callV1 cx [.inl x1] dX12_rect_41 cvX12_325 (mt12_doesFail q11) (am_ke q8) ⟨rfl, rfl, Nat.le_of_ble_eq_true rfl, Nat.le_of_ble_eq_true rfl⟩ rfl (Nat.le_of_ble_eq_true rfl) ⟨Nat.le_of_ble_eq_true rfl, Nat.le_of_ble_eq_true rfl⟩ ?_
        refine am_if_eq cx (tgt := 50) dX12_rect_44 (by decide) (fun h => ?_) (fun h => ?_)
        · have hres := am_ifp h hres
          refine am_iload_n cx 2 dX12_rect_50 rfl ?_
          by_cases w12 : x2 = (0 : Int32)
          · refine am_tableIn cx (tgt := 88) (off := 37) dX12_rect_51 (by rw [w12]; decide) (by rw [w12]; decide) (by rw [w12]; decide) (by decide) ?_
            have hres := am_ifp w12 hres
            refine am_aload_n cx 0 dX12_rect_88 rfl ?_
            refine am_iload_n cx 1 dX12_rect_89 rfl ?_
            refine am_iconst cx (v := (0 : Int32)) dX12_rect_90 (by decide) ?_
            obtain ⟨q13, hres⟩ := am_ck_some hres
            obtain ⟨v14, M15, q16, hres⟩ := am_bd_some hres
            refine am_callV1 cx [.inl x1, .inl (0 : Int32)] dX12_rect_91 cvX12_306 (mt12_of q16) (am_ke q13) ⟨rfl, rfl, Nat.le_of_ble_eq_true rfl, Nat.le_of_ble_eq_true rfl⟩ rfl (Nat.le_of_ble_eq_true rfl) ⟨Nat.le_of_ble_eq_true rfl, Nat.le_of_ble_eq_true rfl⟩ ?_
            obtain ⟨rfl, rfl⟩ := am_fin hres
            exact am_iret cx dX12_rect_94
          have hres := am_ifn w12 hres
          by_cases w17 : x2 = (1 : Int32)
          · refine am_tableIn cx (tgt := 95) (off := 44) dX12_rect_51 (by rw [w17]; decide) (by rw [w17]; decide) (by rw [w17]; decide) (by decide) ?_
            have hres := am_ifp w17 hres
            refine am_aload_n cx 0 dX12_rect_95 rfl ?_
            refine am_iload_n cx 1 dX12_rect_96 rfl ?_
            refine am_iconst cx (v := (1 : Int32)) dX12_rect_97 (by decide) ?_
            obtain ⟨q18, hres⟩ := am_ck_some hres
            obtain ⟨v19, M20, q21, hres⟩ := am_bd_some hres
            refine am_callV1 cx [.inl x1, .inl (1 : Int32)] dX12_rect_98 cvX12_306 (mt12_of q21) (am_ke q18) ⟨rfl, rfl, Nat.le_of_ble_eq_true rfl, Nat.le_of_ble_eq_true rfl⟩ rfl (Nat.le_of_ble_eq_true rfl) ⟨Nat.le_of_ble_eq_true rfl, Nat.le_of_ble_eq_true rfl⟩ ?_
            obtain ⟨rfl, rfl⟩ := am_fin hres
            exact am_iret cx dX12_rect_101
          have hres := am_ifn w17 hres
          by_cases w22 : x2 = (2 : Int32)
          · refine am_tableIn cx (tgt := 102) (off := 51) dX12_rect_51 (by rw [w22]; decide) (by rw [w22]; decide) (by rw [w22]; decide) (by decide) ?_
            have hres := am_ifp w22 hres
            refine am_aload_n cx 0 dX12_rect_102 rfl ?_
            refine am_iload_n cx 1 dX12_rect_103 rfl ?_
            refine am_iconst cx (v := (2 : Int32)) dX12_rect_104 (by decide) ?_
            obtain ⟨q23, hres⟩ := am_ck_some hres
            obtain ⟨v24, M25, q26, hres⟩ := am_bd_some hres
            refine am_callV1 cx [.inl x1, .inl (2 : Int32)] dX12_rect_105 cvX12_306 (mt12_of q26) (am_ke q23) ⟨rfl, rfl, Nat.le_of_ble_eq_true rfl, Nat.le_of_ble_eq_true rfl⟩ rfl (Nat.le_of_ble_eq_true rfl) ⟨Nat.le_of_ble_eq_true rfl, Nat.le_of_ble_eq_true rfl⟩ ?_
            obtain ⟨rfl, rfl⟩ := am_fin hres
            exact am_iret cx dX12_rect_108
          have hres := am_ifn w22 hres
          by_cases w27 : x2 = (3 : Int32)
          · refine am_tableIn cx (tgt := 109) (off := 58) dX12_rect_51 (by rw [w27]; decide) (by rw [w27]; decide) (by rw [w27]; decide) (by decide) ?_
            have hres := am_ifp w27 hres
            refine am_aload_n cx 0 dX12_rect_109 rfl ?_
            refine am_iload_n cx 1 dX12_rect_110 rfl ?_
            obtain ⟨q28, hres⟩ := am_ck_some hres
            obtain ⟨v29, M30, q31, hres⟩ := am_bd_some hres
            refine am_callV1 cx [.inl x1] dX12_rect_111 cvX12_328 (mt12_arePerfect q31) (am_ke q28) ⟨rfl, rfl, Nat.le_of_ble_eq_true rfl, Nat.le_of_ble_eq_true rfl⟩ rfl (Nat.le_of_ble_eq_true rfl) ⟨Nat.le_of_ble_eq_true rfl, Nat.le_of_ble_eq_true rfl⟩ ?_
            refine am_if_eq cx (tgt := 121) dX12_rect_114 (by decide) (fun h => ?_) (fun h => ?_)
            · have hres := am_ifp h hres
              refine am_iconst cx (v := (0 : Int32)) dX12_rect_121 (by decide) ?_
              refine am_sub cx [] rfl ?_
              exact sn12_rect_b122 cx  hres
            · have hres := am_ifn h hres
              refine am_iconst cx (v := (1 : Int32)) dX12_rect_117 (by decide) ?_
              refine am_goto cx (tgt := 122) dX12_rect_118 (by decide) ?_
              refine am_sub cx [] rfl ?_
              exact sn12_rect_b122 cx  hres
          have hres := am_ifn w27 hres
          by_cases w32 : x2 = (4 : Int32)
          · refine am_tableIn cx (tgt := 123) (off := 72) dX12_rect_51 (by rw [w32]; decide) (by rw [w32]; decide) (by rw [w32]; decide) (by decide) ?_
            have hres := am_ifp w32 hres
            refine am_aload_n cx 0 dX12_rect_123 rfl ?_
            refine am_iload_n cx 1 dX12_rect_124 rfl ?_
            obtain ⟨q33, hres⟩ := am_ck_some hres
            obtain ⟨v34, M35, q36, hres⟩ := am_bd_some hres
            refine am_callV1 cx [.inl x1] dX12_rect_125 cvX12_331 (mt12_partsOf q36) (am_ke q33) ⟨rfl, rfl, Nat.le_of_ble_eq_true rfl, Nat.le_of_ble_eq_true rfl⟩ rfl (Nat.le_of_ble_eq_true rfl) ⟨Nat.le_of_ble_eq_true rfl, Nat.le_of_ble_eq_true rfl⟩ ?_
            refine am_if_ne cx (tgt := 135) dX12_rect_128 (by decide) (fun h => ?_) (fun h => ?_)
            · have hres := am_ifn h hres
              refine am_iconst cx (v := (0 : Int32)) dX12_rect_135 (by decide) ?_
              refine am_sub cx [] rfl ?_
              exact sn12_rect_b136 cx  hres
            · have hres := am_ifp h hres
              refine am_iconst cx (v := (1 : Int32)) dX12_rect_131 (by decide) ?_
              refine am_goto cx (tgt := 136) dX12_rect_132 (by decide) ?_
              refine am_sub cx [] rfl ?_
              exact sn12_rect_b136 cx  hres
          have hres := am_ifn w32 hres
          by_cases w37 : x2 = (5 : Int32)
          · refine am_tableIn cx (tgt := 137) (off := 86) dX12_rect_51 (by rw [w37]; decide) (by rw [w37]; decide) (by rw [w37]; decide) (by decide) ?_
            have hres := am_ifp w37 hres
            refine am_aload_n cx 0 dX12_rect_137 rfl ?_
            refine am_iload_n cx 1 dX12_rect_138 rfl ?_
            obtain ⟨q38, hres⟩ := am_ck_some hres
            obtain ⟨v39, M40, q41, hres⟩ := am_bd_some hres
            refine am_callV1 cx [.inl x1] dX12_rect_139 cvX12_331 (mt12_partsOf q41) (am_ke q38) ⟨rfl, rfl, Nat.le_of_ble_eq_true rfl, Nat.le_of_ble_eq_true rfl⟩ rfl (Nat.le_of_ble_eq_true rfl) ⟨Nat.le_of_ble_eq_true rfl, Nat.le_of_ble_eq_true rfl⟩ ?_
            obtain ⟨rfl, rfl⟩ := am_fin hres
            exact am_iret cx dX12_rect_142
          have hres := am_ifn w37 hres
          refine am_tableOut cx (tgt := 143) dX12_rect_51 (am_sw (fun cq h1 h2 => ?_)) (by decide) ?_
          · rcases (show cq = 0 ∨ cq = 1 ∨ cq = 2 ∨ cq = 3 ∨ cq = 4 ∨ cq = 5 by omega) with rfl | rfl | rfl | rfl | rfl | rfl
            · exact w12
            · exact w17
            · exact w22
            · exact w27
            · exact w32
            · exact w37
          skip
          refine am_aload_n cx 0 dX12_rect_143 rfl ?_
          refine am_iload_n cx 1 dX12_rect_144 rfl ?_
          obtain ⟨q42, hres⟩ := am_ck_some hres
          obtain ⟨v43, M44, q45, hres⟩ := am_bd_some hres
          refine am_callV1 cx [.inl x1] dX12_rect_145 cvX12_334 (mt12_crossesOf q45) (am_ke q42) ⟨rfl, rfl, Nat.le_of_ble_eq_true rfl, Nat.le_of_ble_eq_true rfl⟩ rfl (Nat.le_of_ble_eq_true rfl) ⟨Nat.le_of_ble_eq_true rfl, Nat.le_of_ble_eq_true rfl⟩ ?_
          obtain ⟨rfl, rfl⟩ := am_fin hres
          exact am_iret cx dX12_rect_148
        · have hres := am_ifn h hres
          refine am_bipush cx (v := (-2 : Int32)) dX12_rect_47 (by decide) ?_
          obtain ⟨rfl, rfl⟩ := am_fin hres
          exact am_iret cx dX12_rect_49
      · have hres := am_ifp h hres
        refine am_aload_n cx 0 dX12_rect_33 rfl ?_
        refine am_iload_n cx 1 dX12_rect_34 rfl ?_
        obtain ⟨q46, hres⟩ := am_ck_some hres
        obtain ⟨v47, M48, q49, hres⟩ := am_bd_some hres
        refine am_callV1 cx [.inl x1] dX12_rect_35 cvX12_322 (mt12_kindOf q49) (am_ke q46) ⟨rfl, rfl, Nat.le_of_ble_eq_true rfl, Nat.le_of_ble_eq_true rfl⟩ rfl (Nat.le_of_ble_eq_true rfl) ⟨Nat.le_of_ble_eq_true rfl, Nat.le_of_ble_eq_true rfl⟩ ?_
        obtain ⟨rfl, rfl⟩ := am_fin hres
        exact am_iret cx dX12_rect_38
    · have hres := am_ifp h hres
      refine am_sub cx [] rfl ?_
      exact sn12_rect_b25 cx  hres
set_option maxRecDepth 20000 in
theorem mt12_rect {l : Launch} {v : Int32} {M M' : am_Mem} {N : Nat} {r0 : Nat} {x1 : Int32} {x2 : Int32} (h : fn12_rect N M r0 x1 x2 = some (v, M')) : am_Met l yX12_rect cX12_rect 3 (some .int) rm12_rect 0 0 [.inr (.inr (.inl r0)), .inl x1, .inl x2] M (some (.inl v)) M' := am_mk (by decide) (Nat.le_of_ble_eq_true rfl) (fun G cx => (sn12_rect_b0 cx h))
-- SquareCutsModel.isSquare
def fn12_isSquare_b31  (a0 : Int32) (M : am_Mem) : Option (Int32 × am_Mem) :=
  am_ck (a0 == 0 || a0 == 1) (some (a0, M))
def fn12_isSquare_b30   (M : am_Mem) : Option (Int32 × am_Mem) :=
  fn12_isSquare_b31  (0 : Int32) M
def fn12_isSquare_b0  (r0 : Nat) (x1 : Int32) (x2 : Int32) (M : am_Mem) : Option (Int32 × am_Mem) :=
  am_ck (am_k M r0 12) (am_bd (fn12_isRect M r0 x1) (fun v2 M3 => if v2 = 0 then fn12_isSquare_b30   M3 else am_ck (am_k M3 r0 12) (am_bd (fn12_of M3 r0 x1 (0 : Int32)) (fun v6 M7 => am_bd (fn12_within M7 x2.toInt64 (0 : Int64) ((v6 - (1 : Int32)).toInt64)) (fun v9 M10 => if v9 = 0 then fn12_isSquare_b30   M10 else fn12_isSquare_b31  (1 : Int32) M10)))))
def fn12_isSquare (M : am_Mem) (r0 : Nat) (x1 : Int32) (x2 : Int32) : Option (Int32 × am_Mem) := fn12_isSquare_b0  r0 x1 x2 M
def rm12_isSquare : Room := { frames := 2, cells := 0, slots := 0, locals := 46 }
set_option maxRecDepth 20000 in
theorem sn12_isSquare_b31 {l : Launch} {G : am_G} {v : Int32} {M' : am_Mem}  (cx : am_Ctx l rm12_isSquare yX12_isSquare cX12_isSquare 3 (some .boolean) (some (.inl v)) M' 0 0 G)  {a0 : Int32} {M : am_Mem} (hres : fn12_isSquare_b31  a0 M = some (v, M')) : G 31 [] [.inl a0] M 0 0 := by
  unfold fn12_isSquare_b31 at hres
  obtain ⟨q1, hres⟩ := am_ck_some hres
  obtain ⟨rfl, rfl⟩ := am_fin hres
  exact am_zret cx q1 dX12_isSquare_31
set_option maxRecDepth 20000 in
theorem sn12_isSquare_b30 {l : Launch} {G : am_G} {v : Int32} {M' : am_Mem}  (cx : am_Ctx l rm12_isSquare yX12_isSquare cX12_isSquare 3 (some .boolean) (some (.inl v)) M' 0 0 G)   {M : am_Mem} (hres : fn12_isSquare_b30   M = some (v, M')) : G 30 [] [] M 0 0 := by
  unfold fn12_isSquare_b30 at hres
  refine am_iconst cx (v := (0 : Int32)) dX12_isSquare_30 (by decide) ?_
  exact sn12_isSquare_b31 cx  hres
set_option maxRecDepth 20000 in
theorem sn12_isSquare_b0 {l : Launch} {G : am_G} {v : Int32} {M' : am_Mem}  (cx : am_Ctx l rm12_isSquare yX12_isSquare cX12_isSquare 3 (some .boolean) (some (.inl v)) M' 0 0 G)  {r0 : Nat} {x1 : Int32} {x2 : Int32} {M : am_Mem} (hres : fn12_isSquare_b0  r0 x1 x2 M = some (v, M')) : G 0 [(0, .inr (.inr (.inl r0))), (1, .inl x1), (2, .inl x2)] [] M 0 0 := by
  unfold fn12_isSquare_b0 at hres
  refine am_aload_n cx 0 dX12_isSquare_0 rfl ?_
  refine am_iload_n cx 1 dX12_isSquare_1 rfl ?_
  obtain ⟨q1, hres⟩ := am_ck_some hres
  obtain ⟨v2, M3, q4, hres⟩ := am_bd_some hres
  refine am_callV1 cx [.inl x1] dX12_isSquare_2 cvX12_316 (mt12_isRect q4) (am_ke q1) ⟨rfl, rfl, Nat.le_of_ble_eq_true rfl, Nat.le_of_ble_eq_true rfl⟩ rfl (Nat.le_of_ble_eq_true rfl) ⟨Nat.le_of_ble_eq_true rfl, Nat.le_of_ble_eq_true rfl⟩ ?_
  refine am_if_eq cx (tgt := 30) dX12_isSquare_5 (by decide) (fun h => ?_) (fun h => ?_)
  · have hres := am_ifp h hres
    refine am_sub cx [] rfl ?_
    exact sn12_isSquare_b30 cx  hres
  · have hres := am_ifn h hres
    refine am_iload_n cx 2 dX12_isSquare_8 rfl ?_
    refine am_i2l cx dX12_isSquare_9 ?_
    refine am_lconst cx (v := (0 : Int64)) dX12_isSquare_10 (by decide) ?_
    refine am_aload_n cx 0 dX12_isSquare_11 rfl ?_
    refine am_iload_n cx 1 dX12_isSquare_12 rfl ?_
    refine am_iconst cx (v := (0 : Int32)) dX12_isSquare_13 (by decide) ?_
    obtain ⟨q5, hres⟩ := am_ck_some hres
    obtain ⟨v6, M7, q8, hres⟩ := am_bd_some hres
    refine am_callV1 cx [.inl x1, .inl (0 : Int32)] dX12_isSquare_14 cvX12_306 (mt12_of q8) (am_ke q5) ⟨rfl, rfl, Nat.le_of_ble_eq_true rfl, Nat.le_of_ble_eq_true rfl⟩ rfl (Nat.le_of_ble_eq_true rfl) ⟨Nat.le_of_ble_eq_true rfl, Nat.le_of_ble_eq_true rfl⟩ ?_
    refine am_iconst cx (v := (1 : Int32)) dX12_isSquare_17 (by decide) ?_
    refine am_isub cx dX12_isSquare_18 ?_
    refine am_i2l cx dX12_isSquare_19 ?_
    obtain ⟨v9, M10, q11, hres⟩ := am_bd_some hres
    refine am_callS1 cx [.inr (.inl x2.toInt64), .inr (.inl (0 : Int64)), .inr (.inl (v6 - (1 : Int32)).toInt64)] dX12_isSquare_20 csX12_141 (mt12_within q11)  ⟨rfl, rfl, Nat.le_of_ble_eq_true rfl, Nat.le_of_ble_eq_true rfl⟩ rfl (Nat.le_of_ble_eq_true rfl) ⟨Nat.le_of_ble_eq_true rfl, Nat.le_of_ble_eq_true rfl⟩ ?_
    refine am_if_eq cx (tgt := 30) dX12_isSquare_23 (by decide) (fun h => ?_) (fun h => ?_)
    · have hres := am_ifp h hres
      refine am_sub cx [] rfl ?_
      exact sn12_isSquare_b30 cx  hres
    · have hres := am_ifn h hres
      refine am_iconst cx (v := (1 : Int32)) dX12_isSquare_26 (by decide) ?_
      refine am_goto cx (tgt := 31) dX12_isSquare_27 (by decide) ?_
      refine am_sub cx [] rfl ?_
      exact sn12_isSquare_b31 cx  hres
set_option maxRecDepth 20000 in
theorem mt12_isSquare {l : Launch} {v : Int32} {M M' : am_Mem} {r0 : Nat} {x1 : Int32} {x2 : Int32} (h : fn12_isSquare M r0 x1 x2 = some (v, M')) : am_Met l yX12_isSquare cX12_isSquare 3 (some .boolean) rm12_isSquare 0 0 [.inr (.inr (.inl r0)), .inl x1, .inl x2] M (some (.inl v)) M' := am_mk (by decide) (Nat.le_of_ble_eq_true rfl) (fun G cx => (sn12_isSquare_b0 cx h))
-- SquareCutsModel.square
def fn12_square_b73  (a0 : Int32) (M : am_Mem) : Option (Int32 × am_Mem) :=
  some (a0, M)
def fn12_square_b70  (c0 : Nat) (a1 : Int32) (a2 : Int32) (M : am_Mem) : Option (Int32 × am_Mem) :=
  am_ck (am_k M c0 12) (am_bd (fn12_of M c0 a1 a2) (fun v2 M3 => fn12_square_b73  v2 M3))
def fn12_square_b27  (c0 : Nat) (a1 : Int32) (r0 : Nat) (x1 : Int32) (x2 : Int32) (x3 : Int32) (M : am_Mem) : Option (Int32 × am_Mem) :=
  am_ck (am_k M c0 12) (am_ck (am_k M r0 12) (if (am_I (am_wI M c0 0 a1) r0 0) = (1 : Int32) then fn12_square_b73  (0 : Int32) (am_wI M c0 0 a1) else if x3 = 0 then fn12_square_b70  r0 x1 ((4 : Int32) + x2) (am_wI M c0 0 a1) else if x3 = (1 : Int32) then fn12_square_b70  r0 x1 ((44 : Int32) + x2) (am_wI M c0 0 a1) else fn12_square_b70  r0 x1 ((84 : Int32) + x2) (am_wI M c0 0 a1)))
def fn12_square_b26  (c0 : Nat) (r0 : Nat) (x1 : Int32) (x2 : Int32) (x3 : Int32) (M : am_Mem) : Option (Int32 × am_Mem) :=
  fn12_square_b27  c0 (1 : Int32) r0 x1 x2 x3 M
def fn12_square_b0  (r0 : Nat) (x1 : Int32) (x2 : Int32) (x3 : Int32) (M : am_Mem) : Option (Int32 × am_Mem) :=
  am_ck (am_k M r0 12) (am_bd (fn12_isSquare M r0 x1 x2) (fun v2 M3 => if v2 = 0 then fn12_square_b26  r0 r0 x1 x2 x3 M3 else am_bd (fn12_within M3 x3.toInt64 (0 : Int64) (2 : Int64)) (fun v5 M6 => if v5 = 0 then fn12_square_b26  r0 r0 x1 x2 x3 M6 else fn12_square_b27  r0 (0 : Int32) r0 x1 x2 x3 M6)))
def fn12_square (M : am_Mem) (r0 : Nat) (x1 : Int32) (x2 : Int32) (x3 : Int32) : Option (Int32 × am_Mem) := fn12_square_b0  r0 x1 x2 x3 M
def rm12_square : Room := { frames := 3, cells := 0, slots := 0, locals := 68 }
set_option maxRecDepth 20000 in
theorem sn12_square_b73 {l : Launch} {G : am_G} {v : Int32} {M' : am_Mem}  (cx : am_Ctx l rm12_square yX12_square cX12_square 4 (some .int) (some (.inl v)) M' 0 0 G)  {a0 : Int32} {M : am_Mem} (hres : fn12_square_b73  a0 M = some (v, M')) : G 73 [] [.inl a0] M 0 0 := by
  unfold fn12_square_b73 at hres
  obtain ⟨rfl, rfl⟩ := am_fin hres
  exact am_iret cx dX12_square_73
set_option maxRecDepth 20000 in
theorem sn12_square_b70 {l : Launch} {G : am_G} {v : Int32} {M' : am_Mem}  (cx : am_Ctx l rm12_square yX12_square cX12_square 4 (some .int) (some (.inl v)) M' 0 0 G)  {c0 : Nat} {a1 : Int32} {a2 : Int32} {M : am_Mem} (hres : fn12_square_b70  c0 a1 a2 M = some (v, M')) : G 70 [] [.inl a2, .inl a1, .inr (.inr (.inl c0))] M 0 0 := by
  unfold fn12_square_b70 at hres
  obtain ⟨q1, hres⟩ := am_ck_some hres
  obtain ⟨v2, M3, q4, hres⟩ := am_bd_some hres
  refine am_callV1 cx [.inl a1, .inl a2] dX12_square_70 cvX12_306 (mt12_of q4) (am_ke q1) ⟨rfl, rfl, Nat.le_of_ble_eq_true rfl, Nat.le_of_ble_eq_true rfl⟩ rfl (Nat.le_of_ble_eq_true rfl) ⟨Nat.le_of_ble_eq_true rfl, Nat.le_of_ble_eq_true rfl⟩ ?_
  exact sn12_square_b73 cx  hres
set_option maxRecDepth 20000 in
theorem sn12_square_b27 {l : Launch} {G : am_G} {v : Int32} {M' : am_Mem}  (cx : am_Ctx l rm12_square yX12_square cX12_square 4 (some .int) (some (.inl v)) M' 0 0 G)  {c0 : Nat} {a1 : Int32} {r0 : Nat} {x1 : Int32} {x2 : Int32} {x3 : Int32} {M : am_Mem} (hres : fn12_square_b27  c0 a1 r0 x1 x2 x3 M = some (v, M')) : G 27 [(0, .inr (.inr (.inl r0))), (1, .inl x1), (2, .inl x2), (3, .inl x3)] [.inl a1, .inr (.inr (.inl c0))] M 0 0 := by
  unfold fn12_square_b27 at hres
  obtain ⟨q1, hres⟩ := am_ck_some hres
  refine am_putI cx dX12_square_27 fpX12_103 (fun h => by cases h) (am_ke q1) ?_
  refine am_aload_n cx 0 dX12_square_30 rfl ?_
  obtain ⟨q2, hres⟩ := am_ck_some hres
  refine am_getI cx dX12_square_31 flX12_103 (am_ke q2) ?_
  refine am_iconst cx (v := (1 : Int32)) dX12_square_34 (by decide) ?_
  refine am_icmp_ne cx (tgt := 42) dX12_square_35 (by decide) (fun h => ?_) (fun h => ?_)
  · have hres := am_ifn h hres
    refine am_aload_n cx 0 dX12_square_42 rfl ?_
    refine am_iload_n cx 1 dX12_square_43 rfl ?_
    refine am_iload_n cx 3 dX12_square_44 rfl ?_
    refine am_if_ne cx (tgt := 54) dX12_square_45 (by decide) (fun h => ?_) (fun h => ?_)
    · have hres := am_ifn h hres
      refine am_iload_n cx 3 dX12_square_54 rfl ?_
      refine am_iconst cx (v := (1 : Int32)) dX12_square_55 (by decide) ?_
      refine am_icmp_ne cx (tgt := 66) dX12_square_56 (by decide) (fun h => ?_) (fun h => ?_)
      · have hres := am_ifn h hres
        refine am_bipush cx (v := (84 : Int32)) dX12_square_66 (by decide) ?_
        refine am_iload_n cx 2 dX12_square_68 rfl ?_
        refine am_iadd cx dX12_square_69 ?_
        refine am_sub cx [] rfl ?_
        exact sn12_square_b70 cx  hres
      · have hres := am_ifp h hres
        refine am_bipush cx (v := (44 : Int32)) dX12_square_59 (by decide) ?_
        refine am_iload_n cx 2 dX12_square_61 rfl ?_
        refine am_iadd cx dX12_square_62 ?_
        refine am_goto cx (tgt := 70) dX12_square_63 (by decide) ?_
        refine am_sub cx [] rfl ?_
        exact sn12_square_b70 cx  hres
    · have hres := am_ifp h hres
      refine am_iconst cx (v := (4 : Int32)) dX12_square_48 (by decide) ?_
      refine am_iload_n cx 2 dX12_square_49 rfl ?_
      refine am_iadd cx dX12_square_50 ?_
      refine am_goto cx (tgt := 70) dX12_square_51 (by decide) ?_
      refine am_sub cx [] rfl ?_
      exact sn12_square_b70 cx  hres
  · have hres := am_ifp h hres
    refine am_iconst cx (v := (0 : Int32)) dX12_square_38 (by decide) ?_
    refine am_goto cx (tgt := 73) dX12_square_39 (by decide) ?_
    refine am_sub cx [] rfl ?_
    exact sn12_square_b73 cx  hres
set_option maxRecDepth 20000 in
theorem sn12_square_b26 {l : Launch} {G : am_G} {v : Int32} {M' : am_Mem}  (cx : am_Ctx l rm12_square yX12_square cX12_square 4 (some .int) (some (.inl v)) M' 0 0 G)  {c0 : Nat} {r0 : Nat} {x1 : Int32} {x2 : Int32} {x3 : Int32} {M : am_Mem} (hres : fn12_square_b26  c0 r0 x1 x2 x3 M = some (v, M')) : G 26 [(0, .inr (.inr (.inl r0))), (1, .inl x1), (2, .inl x2), (3, .inl x3)] [.inr (.inr (.inl c0))] M 0 0 := by
  unfold fn12_square_b26 at hres
  refine am_iconst cx (v := (1 : Int32)) dX12_square_26 (by decide) ?_
  exact sn12_square_b27 cx  hres
set_option maxRecDepth 20000 in
theorem sn12_square_b0 {l : Launch} {G : am_G} {v : Int32} {M' : am_Mem}  (cx : am_Ctx l rm12_square yX12_square cX12_square 4 (some .int) (some (.inl v)) M' 0 0 G)  {r0 : Nat} {x1 : Int32} {x2 : Int32} {x3 : Int32} {M : am_Mem} (hres : fn12_square_b0  r0 x1 x2 x3 M = some (v, M')) : G 0 [(0, .inr (.inr (.inl r0))), (1, .inl x1), (2, .inl x2), (3, .inl x3)] [] M 0 0 := by
  unfold fn12_square_b0 at hres
  refine am_aload_n cx 0 dX12_square_0 rfl ?_
  refine am_aload_n cx 0 dX12_square_1 rfl ?_
  refine am_iload_n cx 1 dX12_square_2 rfl ?_
  refine am_iload_n cx 2 dX12_square_3 rfl ?_
  obtain ⟨q1, hres⟩ := am_ck_some hres
  obtain ⟨v2, M3, q4, hres⟩ := am_bd_some hres
  refine am_callV1 cx [.inl x1, .inl x2] dX12_square_4 cvX12_337 (mt12_isSquare q4) (am_ke q1) ⟨rfl, rfl, Nat.le_of_ble_eq_true rfl, Nat.le_of_ble_eq_true rfl⟩ rfl (Nat.le_of_ble_eq_true rfl) ⟨Nat.le_of_ble_eq_true rfl, Nat.le_of_ble_eq_true rfl⟩ ?_
  refine am_if_eq cx (tgt := 26) dX12_square_7 (by decide) (fun h => ?_) (fun h => ?_)
  · have hres := am_ifp h hres
    exact sn12_square_b26 cx  hres
  · have hres := am_ifn h hres
    refine am_iload_n cx 3 dX12_square_10 rfl ?_
    refine am_i2l cx dX12_square_11 ?_
    refine am_lconst cx (v := (0 : Int64)) dX12_square_12 (by decide) ?_
    refine am_ldc2 cx dX12_square_13 aw_6_20 ?_
    obtain ⟨v5, M6, q7, hres⟩ := am_bd_some hres
    refine am_callS1 cx [.inr (.inl x3.toInt64), .inr (.inl (0 : Int64)), .inr (.inl (2 : Int64))] dX12_square_16 csX12_141 (mt12_within q7)  ⟨rfl, rfl, Nat.le_of_ble_eq_true rfl, Nat.le_of_ble_eq_true rfl⟩ rfl (Nat.le_of_ble_eq_true rfl) ⟨Nat.le_of_ble_eq_true rfl, Nat.le_of_ble_eq_true rfl⟩ ?_
    refine am_if_eq cx (tgt := 26) dX12_square_19 (by decide) (fun h => ?_) (fun h => ?_)
    · have hres := am_ifp h hres
      exact sn12_square_b26 cx  hres
    · have hres := am_ifn h hres
      refine am_iconst cx (v := (0 : Int32)) dX12_square_22 (by decide) ?_
      refine am_goto cx (tgt := 27) dX12_square_23 (by decide) ?_
      exact sn12_square_b27 cx  hres
set_option maxRecDepth 20000 in
theorem mt12_square {l : Launch} {v : Int32} {M M' : am_Mem} {r0 : Nat} {x1 : Int32} {x2 : Int32} {x3 : Int32} (h : fn12_square M r0 x1 x2 x3 = some (v, M')) : am_Met l yX12_square cX12_square 4 (some .int) rm12_square 0 0 [.inr (.inr (.inl r0)), .inl x1, .inl x2, .inl x3] M (some (.inl v)) M' := am_mk (by decide) (Nat.le_of_ble_eq_true rfl) (fun G cx => (sn12_square_b0 cx h))
-- SquareCutsModel.laid
def fn12_laid_b36  (a0 : Int32) (M : am_Mem) : Option (Int32 × am_Mem) :=
  some (a0, M)
def fn12_laid_b0  (r0 : Nat) (x1 : Int32) (M : am_Mem) : Option (Int32 × am_Mem) :=
  am_ck (am_k M r0 12) (am_bd (fn12_isRect (am_wI M r0 0 (0 : Int32)) r0 x1) (fun v2 M3 => if v2 = 0 then fn12_laid_b36  (-1 : Int32) M3 else am_ck (am_k M3 r0 12) (am_bd (fn12_kindOf M3 r0 x1) (fun v6 M7 => if v6 = 0 then am_ck (am_k M7 r0 12) (am_ck (am_k M7 (am_R M7 r0 27) 14) (am_ck (am_in x1 (am_L M7 (am_R M7 r0 27))) (fn12_laid_b36  (am_I M7 (am_R M7 r0 27) x1.toNatClampNeg) M7))) else fn12_laid_b36  (-2 : Int32) M7))))
def fn12_laid (M : am_Mem) (r0 : Nat) (x1 : Int32) : Option (Int32 × am_Mem) := fn12_laid_b0  r0 x1 M
def rm12_laid : Room := { frames := 2, cells := 0, slots := 0, locals := 46 }
set_option maxRecDepth 20000 in
theorem sn12_laid_b36 {l : Launch} {G : am_G} {v : Int32} {M' : am_Mem}  (cx : am_Ctx l rm12_laid yX12_laid cX12_laid 2 (some .int) (some (.inl v)) M' 0 0 G)  {a0 : Int32} {M : am_Mem} (hres : fn12_laid_b36  a0 M = some (v, M')) : G 36 [] [.inl a0] M 0 0 := by
  unfold fn12_laid_b36 at hres
  obtain ⟨rfl, rfl⟩ := am_fin hres
  exact am_iret cx dX12_laid_36
set_option maxRecDepth 20000 in
theorem sn12_laid_b0 {l : Launch} {G : am_G} {v : Int32} {M' : am_Mem}  (cx : am_Ctx l rm12_laid yX12_laid cX12_laid 2 (some .int) (some (.inl v)) M' 0 0 G)  {r0 : Nat} {x1 : Int32} {M : am_Mem} (hres : fn12_laid_b0  r0 x1 M = some (v, M')) : G 0 [(0, .inr (.inr (.inl r0))), (1, .inl x1)] [] M 0 0 := by
  unfold fn12_laid_b0 at hres
  refine am_aload_n cx 0 dX12_laid_0 rfl ?_
  refine am_iconst cx (v := (0 : Int32)) dX12_laid_1 (by decide) ?_
  obtain ⟨q1, hres⟩ := am_ck_some hres
  refine am_putI cx dX12_laid_2 fpX12_103 (fun h => by cases h) (am_ke q1) ?_
  refine am_aload_n cx 0 dX12_laid_5 rfl ?_
  refine am_iload_n cx 1 dX12_laid_6 rfl ?_
  obtain ⟨v2, M3, q4, hres⟩ := am_bd_some hres
  refine am_callV1 cx [.inl x1] dX12_laid_7 cvX12_316 (mt12_isRect q4) (am_ke q1) ⟨rfl, rfl, Nat.le_of_ble_eq_true rfl, Nat.le_of_ble_eq_true rfl⟩ rfl (Nat.le_of_ble_eq_true rfl) ⟨Nat.le_of_ble_eq_true rfl, Nat.le_of_ble_eq_true rfl⟩ ?_
  refine am_if_ne cx (tgt := 17) dX12_laid_10 (by decide) (fun h => ?_) (fun h => ?_)
  · have hres := am_ifn h hres
    refine am_aload_n cx 0 dX12_laid_17 rfl ?_
    refine am_iload_n cx 1 dX12_laid_18 rfl ?_
    obtain ⟨q5, hres⟩ := am_ck_some hres
    obtain ⟨v6, M7, q8, hres⟩ := am_bd_some hres
    refine am_callV1 cx [.inl x1] dX12_laid_19 cvX12_322 (mt12_kindOf q8) (am_ke q5) ⟨rfl, rfl, Nat.le_of_ble_eq_true rfl, Nat.le_of_ble_eq_true rfl⟩ rfl (Nat.le_of_ble_eq_true rfl) ⟨Nat.le_of_ble_eq_true rfl, Nat.le_of_ble_eq_true rfl⟩ ?_
    refine am_if_eq cx (tgt := 30) dX12_laid_22 (by decide) (fun h => ?_) (fun h => ?_)
    · have hres := am_ifp h hres
      refine am_aload_n cx 0 dX12_laid_30 rfl ?_
      obtain ⟨q9, hres⟩ := am_ck_some hres
      refine am_getR cx dX12_laid_31 flX12_55 (am_ke q9) ?_
      refine am_iload_n cx 1 dX12_laid_34 rfl ?_
      obtain ⟨q10, hres⟩ := am_ck_some hres
      obtain ⟨q11, hres⟩ := am_ck_some hres
      refine am_iald cx dX12_laid_35 (am_ke q10) q11 ?_
      refine am_sub cx [] rfl ?_
      exact sn12_laid_b36 cx  hres
    · have hres := am_ifn h hres
      refine am_bipush cx (v := (-2 : Int32)) dX12_laid_25 (by decide) ?_
      refine am_goto cx (tgt := 36) dX12_laid_27 (by decide) ?_
      refine am_sub cx [] rfl ?_
      exact sn12_laid_b36 cx  hres
  · have hres := am_ifp h hres
    refine am_iconst cx (v := (-1 : Int32)) dX12_laid_13 (by decide) ?_
    refine am_goto cx (tgt := 36) dX12_laid_14 (by decide) ?_
    refine am_sub cx [] rfl ?_
    exact sn12_laid_b36 cx  hres
set_option maxRecDepth 20000 in
theorem mt12_laid {l : Launch} {v : Int32} {M M' : am_Mem} {r0 : Nat} {x1 : Int32} (h : fn12_laid M r0 x1 = some (v, M')) : am_Met l yX12_laid cX12_laid 2 (some .int) rm12_laid 0 0 [.inr (.inr (.inl r0)), .inl x1] M (some (.inl v)) M' := am_mk (by decide) (Nat.le_of_ble_eq_true rfl) (fun G cx => (sn12_laid_b0 cx h))
-- SquareCutsModel.area
def fn12_area_b48  (b0 : Int64) (M : am_Mem) : Option (Int64 × am_Mem) :=
  some (b0, M)
def fn12_area_b0  (r0 : Nat) (x1 : Int32) (M : am_Mem) : Option (Int64 × am_Mem) :=
  am_ck (am_k M r0 12) (am_bd (fn12_isRect (am_wI M r0 0 (0 : Int32)) r0 x1) (fun v2 M3 => if v2 = 0 then fn12_area_b48  (-1 : Int64) M3 else am_ck (am_k M3 r0 12) (am_bd (fn12_doesFail M3 r0 x1) (fun v6 M7 => if v6 = 0 then am_ck (am_k M7 r0 12) (am_bd (fn12_of M7 r0 x1 (1 : Int32)) (fun v10 M11 => am_ck (am_k M11 r0 12) (am_bd (fn12_of M11 r0 x1 (2 : Int32)) (fun v14 M15 => fn12_area_b48  (v10.toInt64 * v14.toInt64) M15)))) else fn12_area_b48  (-2 : Int64) M7))))
def fn12_area (M : am_Mem) (r0 : Nat) (x1 : Int32) : Option (Int64 × am_Mem) := fn12_area_b0  r0 x1 M
def rm12_area : Room := { frames := 2, cells := 0, slots := 0, locals := 46 }
set_option maxRecDepth 20000 in
theorem sn12_area_b48 {l : Launch} {G : am_G} {v : Int64} {M' : am_Mem}  (cx : am_Ctx l rm12_area yX12_area cX12_area 2 (some .long) (some (.inr (.inl v))) M' 0 0 G)  {b0 : Int64} {M : am_Mem} (hres : fn12_area_b48  b0 M = some (v, M')) : G 48 [] [.inr (.inl b0)] M 0 0 := by
  unfold fn12_area_b48 at hres
  obtain ⟨rfl, rfl⟩ := am_fin hres
  exact am_lret cx dX12_area_48
set_option maxRecDepth 20000 in
theorem sn12_area_b0 {l : Launch} {G : am_G} {v : Int64} {M' : am_Mem}  (cx : am_Ctx l rm12_area yX12_area cX12_area 2 (some .long) (some (.inr (.inl v))) M' 0 0 G)  {r0 : Nat} {x1 : Int32} {M : am_Mem} (hres : fn12_area_b0  r0 x1 M = some (v, M')) : G 0 [(0, .inr (.inr (.inl r0))), (1, .inl x1)] [] M 0 0 := by
  unfold fn12_area_b0 at hres
  refine am_aload_n cx 0 dX12_area_0 rfl ?_
  refine am_iconst cx (v := (0 : Int32)) dX12_area_1 (by decide) ?_
  obtain ⟨q1, hres⟩ := am_ck_some hres
  refine am_putI cx dX12_area_2 fpX12_103 (fun h => by cases h) (am_ke q1) ?_
  refine am_aload_n cx 0 dX12_area_5 rfl ?_
  refine am_iload_n cx 1 dX12_area_6 rfl ?_
  obtain ⟨v2, M3, q4, hres⟩ := am_bd_some hres
  refine am_callV1 cx [.inl x1] dX12_area_7 cvX12_316 (mt12_isRect q4) (am_ke q1) ⟨rfl, rfl, Nat.le_of_ble_eq_true rfl, Nat.le_of_ble_eq_true rfl⟩ rfl (Nat.le_of_ble_eq_true rfl) ⟨Nat.le_of_ble_eq_true rfl, Nat.le_of_ble_eq_true rfl⟩ ?_
  refine am_if_ne cx (tgt := 19) dX12_area_10 (by decide) (fun h => ?_) (fun h => ?_)
  · have hres := am_ifn h hres
    refine am_aload_n cx 0 dX12_area_19 rfl ?_
    refine am_iload_n cx 1 dX12_area_20 rfl ?_
    obtain ⟨q5, hres⟩ := am_ck_some hres
    obtain ⟨v6, M7, q8, hres⟩ := am_bd_some hres
    refine am_callV1 cx [.inl x1] dX12_area_21 cvX12_325 (mt12_doesFail q8) (am_ke q5) ⟨rfl, rfl, Nat.le_of_ble_eq_true rfl, Nat.le_of_ble_eq_true rfl⟩ rfl (Nat.le_of_ble_eq_true rfl) ⟨Nat.le_of_ble_eq_true rfl, Nat.le_of_ble_eq_true rfl⟩ ?_
    refine am_if_eq cx (tgt := 33) dX12_area_24 (by decide) (fun h => ?_) (fun h => ?_)
    · have hres := am_ifp h hres
      refine am_aload_n cx 0 dX12_area_33 rfl ?_
      refine am_iload_n cx 1 dX12_area_34 rfl ?_
      refine am_iconst cx (v := (1 : Int32)) dX12_area_35 (by decide) ?_
      obtain ⟨q9, hres⟩ := am_ck_some hres
      obtain ⟨v10, M11, q12, hres⟩ := am_bd_some hres
      refine am_callV1 cx [.inl x1, .inl (1 : Int32)] dX12_area_36 cvX12_306 (mt12_of q12) (am_ke q9) ⟨rfl, rfl, Nat.le_of_ble_eq_true rfl, Nat.le_of_ble_eq_true rfl⟩ rfl (Nat.le_of_ble_eq_true rfl) ⟨Nat.le_of_ble_eq_true rfl, Nat.le_of_ble_eq_true rfl⟩ ?_
      refine am_i2l cx dX12_area_39 ?_
      refine am_aload_n cx 0 dX12_area_40 rfl ?_
      refine am_iload_n cx 1 dX12_area_41 rfl ?_
      refine am_iconst cx (v := (2 : Int32)) dX12_area_42 (by decide) ?_
      obtain ⟨q13, hres⟩ := am_ck_some hres
      obtain ⟨v14, M15, q16, hres⟩ := am_bd_some hres
      refine am_callV1 cx [.inl x1, .inl (2 : Int32)] dX12_area_43 cvX12_306 (mt12_of q16) (am_ke q13) ⟨rfl, rfl, Nat.le_of_ble_eq_true rfl, Nat.le_of_ble_eq_true rfl⟩ rfl (Nat.le_of_ble_eq_true rfl) ⟨Nat.le_of_ble_eq_true rfl, Nat.le_of_ble_eq_true rfl⟩ ?_
      refine am_i2l cx dX12_area_46 ?_
      refine am_lmul cx dX12_area_47 ?_
      refine am_sub cx [] rfl ?_
      exact sn12_area_b48 cx  hres
    · have hres := am_ifn h hres
      refine am_ldc2 cx dX12_area_27 aw_6_163 ?_
      refine am_goto cx (tgt := 48) dX12_area_30 (by decide) ?_
      refine am_sub cx [] rfl ?_
      exact sn12_area_b48 cx  hres
  · have hres := am_ifp h hres
    refine am_ldc2 cx dX12_area_13 aw_6_86 ?_
    refine am_goto cx (tgt := 48) dX12_area_16 (by decide) ?_
    refine am_sub cx [] rfl ?_
    exact sn12_area_b48 cx  hres
set_option maxRecDepth 20000 in
theorem mt12_area {l : Launch} {v : Int64} {M M' : am_Mem} {r0 : Nat} {x1 : Int32} (h : fn12_area M r0 x1 = some (v, M')) : am_Met l yX12_area cX12_area 2 (some .long) rm12_area 0 0 [.inr (.inr (.inl r0)), .inl x1] M (some (.inr (.inl v))) M' := am_mk (by decide) (Nat.le_of_ble_eq_true rfl) (fun G cx => (sn12_area_b0 cx h))
-- SquareCutsModel.least
def fn12_least_b63 (N : Nat) (k30 : Nat → Int32 → Int32 → Int32 → am_Mem → Option (Int32 × am_Mem)) (r0 : Nat) (x1 : Int32) (x2 : Int32) (x3 : Int32) (M : am_Mem) : Option (Int32 × am_Mem) :=
  k30 r0 x1 x2 (x3 + (1 : Int32)) M
def fn12_least_b30B (N : Nat) (k30 : Nat → Int32 → Int32 → Int32 → am_Mem → Option (Int32 × am_Mem)) (r0 : Nat) (x1 : Int32) (x2 : Int32) (x3 : Int32) (M : am_Mem) : Option (Int32 × am_Mem) :=
  am_ck (am_k M r0 12) (am_bd (fn12_of M r0 x1 (0 : Int32)) (fun v2 M3 => if v2 ≤ x3 then some (x2, M3) else am_ck (am_k M3 r0 12) (am_bd (fn12_of M3 r0 x1 ((84 : Int32) + x3)) (fun v6 M7 => am_ck (am_k M7 r0 12) (am_bd (fn12_of M7 r0 x1 ((84 : Int32) + x2)) (fun v10 M11 => if v10 ≤ v6 then fn12_least_b63 N k30 r0 x1 x2 x3 M11 else fn12_least_b63 N k30 r0 x1 x3 x3 M11))))))
def fn12_least_b30 (N : Nat)  : Nat → Nat → Int32 → Int32 → Int32 → am_Mem → Option (Int32 × am_Mem)
  | 0 => fun _ _ _ _ _ => none
  | i + 1 => fn12_least_b30B N (fn12_least_b30 N  i)
def fn12_least_b0 (N : Nat)  (r0 : Nat) (x1 : Int32) (M : am_Mem) : Option (Int32 × am_Mem) :=
  am_ck (am_k M r0 12) (am_bd (fn12_isRect (am_wI M r0 0 (0 : Int32)) r0 x1) (fun v2 M3 => if v2 = 0 then some ((-1 : Int32), M3) else am_ck (am_k M3 r0 12) (am_bd (fn12_doesFail M3 r0 x1) (fun v6 M7 => if v6 = 0 then fn12_least_b30 N  N r0 x1 (0 : Int32) (1 : Int32) M7 else some ((-2 : Int32), M7)))))
def fn12_least (N : Nat) (M : am_Mem) (r0 : Nat) (x1 : Int32) : Option (Int32 × am_Mem) := fn12_least_b0 N r0 x1 M
def rm12_least : Room := { frames := 2, cells := 0, slots := 0, locals := 46 }
set_option maxRecDepth 20000 in
theorem sn12_least_b63 {l : Launch} {G : am_G} {v : Int32} {M' : am_Mem} {N : Nat} {k30 : Nat → Int32 → Int32 → Int32 → am_Mem → Option (Int32 × am_Mem)} (cx : am_Ctx l rm12_least yX12_least cX12_least 4 (some .int) (some (.inl v)) M' 0 0 G) (hk30 : ∀ (r0 : Nat) (x1 : Int32) (x2 : Int32) (x3 : Int32) (M : am_Mem), k30 r0 x1 x2 x3 M = some (v, M') → G 30 [(0, .inr (.inr (.inl r0))), (1, .inl x1), (2, .inl x2), (3, .inl x3)] [] M 0 0) {r0 : Nat} {x1 : Int32} {x2 : Int32} {x3 : Int32} {M : am_Mem} (hres : fn12_least_b63 N k30 r0 x1 x2 x3 M = some (v, M')) : G 63 [(0, .inr (.inr (.inl r0))), (1, .inl x1), (2, .inl x2), (3, .inl x3)] [] M 0 0 := by
  unfold fn12_least_b63 at hres
  refine am_iincw cx (lv' := [(0, .inr (.inr (.inl r0))), (1, .inl x1), (2, .inl x2), (3, .inl (x3 + (1 : Int32)))]) (w := (1 : Int32)) 3 dX12_least_63 (by decide) rfl (Nat.le_of_ble_eq_true rfl) rfl ?_
  refine am_goto cx (tgt := 30) dX12_least_66 (by decide) ?_
  exact hk30 _ _ _ _ _ hres
set_option maxRecDepth 20000 in
theorem sn12_least_b30B {l : Launch} {G : am_G} {v : Int32} {M' : am_Mem} {N : Nat} {k30 : Nat → Int32 → Int32 → Int32 → am_Mem → Option (Int32 × am_Mem)} (cx : am_Ctx l rm12_least yX12_least cX12_least 4 (some .int) (some (.inl v)) M' 0 0 G) (hk30 : ∀ (r0 : Nat) (x1 : Int32) (x2 : Int32) (x3 : Int32) (M : am_Mem), k30 r0 x1 x2 x3 M = some (v, M') → G 30 [(0, .inr (.inr (.inl r0))), (1, .inl x1), (2, .inl x2), (3, .inl x3)] [] M 0 0) {r0 : Nat} {x1 : Int32} {x2 : Int32} {x3 : Int32} {M : am_Mem} (hres : fn12_least_b30B N k30 r0 x1 x2 x3 M = some (v, M')) : G 30 [(0, .inr (.inr (.inl r0))), (1, .inl x1), (2, .inl x2), (3, .inl x3)] [] M 0 0 := by
  unfold fn12_least_b30B at hres
  refine am_iload_n cx 3 dX12_least_30 rfl ?_
  refine am_aload_n cx 0 dX12_least_31 rfl ?_
  refine am_iload_n cx 1 dX12_least_32 rfl ?_
  refine am_iconst cx (v := (0 : Int32)) dX12_least_33 (by decide) ?_
  obtain ⟨q1, hres⟩ := am_ck_some hres
  obtain ⟨v2, M3, q4, hres⟩ := am_bd_some hres
  refine am_callV1 cx [.inl x1, .inl (0 : Int32)] dX12_least_34 cvX12_306 (mt12_of q4) (am_ke q1) ⟨rfl, rfl, Nat.le_of_ble_eq_true rfl, Nat.le_of_ble_eq_true rfl⟩ rfl (Nat.le_of_ble_eq_true rfl) ⟨Nat.le_of_ble_eq_true rfl, Nat.le_of_ble_eq_true rfl⟩ ?_
  refine am_icmp_ge cx (tgt := 69) dX12_least_37 (by decide) (fun h => ?_) (fun h => ?_)
  · have hres := am_ifp h hres
    refine am_iload_n cx 2 dX12_least_69 rfl ?_
    obtain ⟨rfl, rfl⟩ := am_fin hres
    exact am_iret cx dX12_least_70
  · have hres := am_ifn h hres
    refine am_aload_n cx 0 dX12_least_40 rfl ?_
    refine am_iload_n cx 1 dX12_least_41 rfl ?_
    refine am_bipush cx (v := (84 : Int32)) dX12_least_42 (by decide) ?_
    refine am_iload_n cx 3 dX12_least_44 rfl ?_
    refine am_iadd cx dX12_least_45 ?_
    obtain ⟨q5, hres⟩ := am_ck_some hres
    obtain ⟨v6, M7, q8, hres⟩ := am_bd_some hres
    refine am_callV1 cx [.inl x1, .inl ((84 : Int32) + x3)] dX12_least_46 cvX12_306 (mt12_of q8) (am_ke q5) ⟨rfl, rfl, Nat.le_of_ble_eq_true rfl, Nat.le_of_ble_eq_true rfl⟩ rfl (Nat.le_of_ble_eq_true rfl) ⟨Nat.le_of_ble_eq_true rfl, Nat.le_of_ble_eq_true rfl⟩ ?_
    refine am_aload_n cx 0 dX12_least_49 rfl ?_
    refine am_iload_n cx 1 dX12_least_50 rfl ?_
    refine am_bipush cx (v := (84 : Int32)) dX12_least_51 (by decide) ?_
    refine am_iload_n cx 2 dX12_least_53 rfl ?_
    refine am_iadd cx dX12_least_54 ?_
    obtain ⟨q9, hres⟩ := am_ck_some hres
    obtain ⟨v10, M11, q12, hres⟩ := am_bd_some hres
    refine am_callV1 cx [.inl x1, .inl ((84 : Int32) + x2)] dX12_least_55 cvX12_306 (mt12_of q12) (am_ke q9) ⟨rfl, rfl, Nat.le_of_ble_eq_true rfl, Nat.le_of_ble_eq_true rfl⟩ rfl (Nat.le_of_ble_eq_true rfl) ⟨Nat.le_of_ble_eq_true rfl, Nat.le_of_ble_eq_true rfl⟩ ?_
    refine am_icmp_ge cx (tgt := 63) dX12_least_58 (by decide) (fun h => ?_) (fun h => ?_)
    · have hres := am_ifp h hres
      exact sn12_least_b63 cx hk30 hres
    · have hres := am_ifn h hres
      refine am_iload_n cx 3 dX12_least_61 rfl ?_
      refine am_istore_n cx (lv' := [(0, .inr (.inr (.inl r0))), (1, .inl x1), (2, .inl x3), (3, .inl x3)]) dX12_least_62 (Nat.le_of_ble_eq_true rfl) rfl ?_
      exact sn12_least_b63 cx hk30 hres
set_option maxRecDepth 20000 in
theorem sn12_least_b30 {l : Launch} {G : am_G} {v : Int32} {M' : am_Mem} {N : Nat}  (cx : am_Ctx l rm12_least yX12_least cX12_least 4 (some .int) (some (.inl v)) M' 0 0 G)  (i : Nat) : ∀ (r0 : Nat) (x1 : Int32) (x2 : Int32) (x3 : Int32) (M : am_Mem), fn12_least_b30 N  i r0 x1 x2 x3 M = some (v, M') → G 30 [(0, .inr (.inr (.inl r0))), (1, .inl x1), (2, .inl x2), (3, .inl x3)] [] M 0 0 := by
  induction i with
  | zero => intro r0 x1 x2 x3 M hres; exact am_no hres
  | succ i ih => intro r0 x1 x2 x3 M hres; exact sn12_least_b30B cx ih hres
set_option maxRecDepth 20000 in
theorem sn12_least_b0 {l : Launch} {G : am_G} {v : Int32} {M' : am_Mem} {N : Nat}  (cx : am_Ctx l rm12_least yX12_least cX12_least 4 (some .int) (some (.inl v)) M' 0 0 G)  {r0 : Nat} {x1 : Int32} {M : am_Mem} (hres : fn12_least_b0 N  r0 x1 M = some (v, M')) : G 0 [(0, .inr (.inr (.inl r0))), (1, .inl x1)] [] M 0 0 := by
  unfold fn12_least_b0 at hres
  refine am_aload_n cx 0 dX12_least_0 rfl ?_
  refine am_iconst cx (v := (0 : Int32)) dX12_least_1 (by decide) ?_
  obtain ⟨q1, hres⟩ := am_ck_some hres
  refine am_putI cx dX12_least_2 fpX12_103 (fun h => by cases h) (am_ke q1) ?_
  refine am_aload_n cx 0 dX12_least_5 rfl ?_
  refine am_iload_n cx 1 dX12_least_6 rfl ?_
  obtain ⟨v2, M3, q4, hres⟩ := am_bd_some hres
  refine am_callV1 cx [.inl x1] dX12_least_7 cvX12_316 (mt12_isRect q4) (am_ke q1) ⟨rfl, rfl, Nat.le_of_ble_eq_true rfl, Nat.le_of_ble_eq_true rfl⟩ rfl (Nat.le_of_ble_eq_true rfl) ⟨Nat.le_of_ble_eq_true rfl, Nat.le_of_ble_eq_true rfl⟩ ?_
  refine am_if_ne cx (tgt := 15) dX12_least_10 (by decide) (fun h => ?_) (fun h => ?_)
  · have hres := am_ifn h hres
    refine am_aload_n cx 0 dX12_least_15 rfl ?_
    refine am_iload_n cx 1 dX12_least_16 rfl ?_
    obtain ⟨q5, hres⟩ := am_ck_some hres
    obtain ⟨v6, M7, q8, hres⟩ := am_bd_some hres
    refine am_callV1 cx [.inl x1] dX12_least_17 cvX12_325 (mt12_doesFail q8) (am_ke q5) ⟨rfl, rfl, Nat.le_of_ble_eq_true rfl, Nat.le_of_ble_eq_true rfl⟩ rfl (Nat.le_of_ble_eq_true rfl) ⟨Nat.le_of_ble_eq_true rfl, Nat.le_of_ble_eq_true rfl⟩ ?_
    refine am_if_eq cx (tgt := 26) dX12_least_20 (by decide) (fun h => ?_) (fun h => ?_)
    · have hres := am_ifp h hres
      refine am_iconst cx (v := (0 : Int32)) dX12_least_26 (by decide) ?_
      refine am_istore_n cx (lv' := [(0, .inr (.inr (.inl r0))), (1, .inl x1), (2, .inl (0 : Int32))]) dX12_least_27 (Nat.le_of_ble_eq_true rfl) rfl ?_
      refine am_iconst cx (v := (1 : Int32)) dX12_least_28 (by decide) ?_
      refine am_istore_n cx (lv' := [(0, .inr (.inr (.inl r0))), (1, .inl x1), (2, .inl (0 : Int32)), (3, .inl (1 : Int32))]) dX12_least_29 (Nat.le_of_ble_eq_true rfl) rfl ?_
      exact sn12_least_b30 cx  N _ _ _ _ _ hres
    · have hres := am_ifn h hres
      refine am_bipush cx (v := (-2 : Int32)) dX12_least_23 (by decide) ?_
      obtain ⟨rfl, rfl⟩ := am_fin hres
      exact am_iret cx dX12_least_25
  · have hres := am_ifp h hres
    refine am_iconst cx (v := (-1 : Int32)) dX12_least_13 (by decide) ?_
    obtain ⟨rfl, rfl⟩ := am_fin hres
    exact am_iret cx dX12_least_14
set_option maxRecDepth 20000 in
theorem mt12_least {l : Launch} {v : Int32} {M M' : am_Mem} {N : Nat} {r0 : Nat} {x1 : Int32} (h : fn12_least N M r0 x1 = some (v, M')) : am_Met l yX12_least cX12_least 4 (some .int) rm12_least 0 0 [.inr (.inr (.inl r0)), .inl x1] M (some (.inl v)) M' := am_mk (by decide) (Nat.le_of_ble_eq_true rfl) (fun G cx => (sn12_least_b0 cx h))
-- SquareCutsModel.isBeside
def fn12_isBeside_b65  (a0 : Int32) (M : am_Mem) : Option (Int32 × am_Mem) :=
  am_ck (a0 == 0 || a0 == 1) (some (a0, M))
def fn12_isBeside_b64   (M : am_Mem) : Option (Int32 × am_Mem) :=
  fn12_isBeside_b65  (0 : Int32) M
def fn12_isBeside_b0  (r0 : Nat) (x1 : Int32) (x2 : Int32) (M : am_Mem) : Option (Int32 × am_Mem) :=
  if x2 ≤ 0 then fn12_isBeside_b64   M else am_ck (am_k M r0 12) (am_bd (fn12_of M r0 x1 ((44 : Int32) + x2)) (fun v2 M3 => am_ck (am_k M3 r0 12) (am_bd (fn12_of M3 r0 x1 (((44 : Int32) + x2) - (1 : Int32))) (fun v6 M7 => if v2 = v6 then am_ck (am_k M7 r0 12) (am_bd (fn12_of M7 r0 x1 ((4 : Int32) + x2)) (fun v10 M11 => am_ck (am_k M11 r0 12) (am_bd (fn12_of M11 r0 x1 (((4 : Int32) + x2) - (1 : Int32))) (fun v14 M15 => am_ck (am_k M15 r0 12) (am_bd (fn12_of M15 r0 x1 (((84 : Int32) + x2) - (1 : Int32))) (fun v18 M19 => if v10 = (v14 + v18) then fn12_isBeside_b65  (1 : Int32) M19 else fn12_isBeside_b64   M19)))))) else fn12_isBeside_b64   M7))))
def fn12_isBeside (M : am_Mem) (r0 : Nat) (x1 : Int32) (x2 : Int32) : Option (Int32 × am_Mem) := fn12_isBeside_b0  r0 x1 x2 M
def rm12_isBeside : Room := { frames := 1, cells := 0, slots := 0, locals := 22 }
set_option maxRecDepth 20000 in
theorem sn12_isBeside_b65 {l : Launch} {G : am_G} {v : Int32} {M' : am_Mem}  (cx : am_Ctx l rm12_isBeside yX12_isBeside cX12_isBeside 3 (some .boolean) (some (.inl v)) M' 0 0 G)  {a0 : Int32} {M : am_Mem} (hres : fn12_isBeside_b65  a0 M = some (v, M')) : G 65 [] [.inl a0] M 0 0 := by
  unfold fn12_isBeside_b65 at hres
  obtain ⟨q1, hres⟩ := am_ck_some hres
  obtain ⟨rfl, rfl⟩ := am_fin hres
  exact am_zret cx q1 dX12_isBeside_65
set_option maxRecDepth 20000 in
theorem sn12_isBeside_b64 {l : Launch} {G : am_G} {v : Int32} {M' : am_Mem}  (cx : am_Ctx l rm12_isBeside yX12_isBeside cX12_isBeside 3 (some .boolean) (some (.inl v)) M' 0 0 G)   {M : am_Mem} (hres : fn12_isBeside_b64   M = some (v, M')) : G 64 [] [] M 0 0 := by
  unfold fn12_isBeside_b64 at hres
  refine am_iconst cx (v := (0 : Int32)) dX12_isBeside_64 (by decide) ?_
  exact sn12_isBeside_b65 cx  hres
set_option maxRecDepth 20000 in
theorem sn12_isBeside_b0 {l : Launch} {G : am_G} {v : Int32} {M' : am_Mem}  (cx : am_Ctx l rm12_isBeside yX12_isBeside cX12_isBeside 3 (some .boolean) (some (.inl v)) M' 0 0 G)  {r0 : Nat} {x1 : Int32} {x2 : Int32} {M : am_Mem} (hres : fn12_isBeside_b0  r0 x1 x2 M = some (v, M')) : G 0 [(0, .inr (.inr (.inl r0))), (1, .inl x1), (2, .inl x2)] [] M 0 0 := by
  unfold fn12_isBeside_b0 at hres
  refine am_iload_n cx 2 dX12_isBeside_0 rfl ?_
  refine am_if_le cx (tgt := 64) dX12_isBeside_1 (by decide) (fun h => ?_) (fun h => ?_)
  · have hres := am_ifp h hres
    refine am_sub cx [] rfl ?_
    exact sn12_isBeside_b64 cx  hres
  · have hres := am_ifn h hres
    refine am_aload_n cx 0 dX12_isBeside_4 rfl ?_
    refine am_iload_n cx 1 dX12_isBeside_5 rfl ?_
    refine am_bipush cx (v := (44 : Int32)) dX12_isBeside_6 (by decide) ?_
    refine am_iload_n cx 2 dX12_isBeside_8 rfl ?_
    refine am_iadd cx dX12_isBeside_9 ?_
    obtain ⟨q1, hres⟩ := am_ck_some hres
    obtain ⟨v2, M3, q4, hres⟩ := am_bd_some hres
    refine am_callV1 cx [.inl x1, .inl ((44 : Int32) + x2)] dX12_isBeside_10 cvX12_306 (mt12_of q4) (am_ke q1) ⟨rfl, rfl, Nat.le_of_ble_eq_true rfl, Nat.le_of_ble_eq_true rfl⟩ rfl (Nat.le_of_ble_eq_true rfl) ⟨Nat.le_of_ble_eq_true rfl, Nat.le_of_ble_eq_true rfl⟩ ?_
    refine am_aload_n cx 0 dX12_isBeside_13 rfl ?_
    refine am_iload_n cx 1 dX12_isBeside_14 rfl ?_
    refine am_bipush cx (v := (44 : Int32)) dX12_isBeside_15 (by decide) ?_
    refine am_iload_n cx 2 dX12_isBeside_17 rfl ?_
    refine am_iadd cx dX12_isBeside_18 ?_
    refine am_iconst cx (v := (1 : Int32)) dX12_isBeside_19 (by decide) ?_
    refine am_isub cx dX12_isBeside_20 ?_
    obtain ⟨q5, hres⟩ := am_ck_some hres
    obtain ⟨v6, M7, q8, hres⟩ := am_bd_some hres
    refine am_callV1 cx [.inl x1, .inl (((44 : Int32) + x2) - (1 : Int32))] dX12_isBeside_21 cvX12_306 (mt12_of q8) (am_ke q5) ⟨rfl, rfl, Nat.le_of_ble_eq_true rfl, Nat.le_of_ble_eq_true rfl⟩ rfl (Nat.le_of_ble_eq_true rfl) ⟨Nat.le_of_ble_eq_true rfl, Nat.le_of_ble_eq_true rfl⟩ ?_
    refine am_icmp_ne cx (tgt := 64) dX12_isBeside_24 (by decide) (fun h => ?_) (fun h => ?_)
    · have hres := am_ifn h hres
      refine am_sub cx [] rfl ?_
      exact sn12_isBeside_b64 cx  hres
    · have hres := am_ifp h hres
      refine am_aload_n cx 0 dX12_isBeside_27 rfl ?_
      refine am_iload_n cx 1 dX12_isBeside_28 rfl ?_
      refine am_iconst cx (v := (4 : Int32)) dX12_isBeside_29 (by decide) ?_
      refine am_iload_n cx 2 dX12_isBeside_30 rfl ?_
      refine am_iadd cx dX12_isBeside_31 ?_
      obtain ⟨q9, hres⟩ := am_ck_some hres
      obtain ⟨v10, M11, q12, hres⟩ := am_bd_some hres
      refine am_callV1 cx [.inl x1, .inl ((4 : Int32) + x2)] dX12_isBeside_32 cvX12_306 (mt12_of q12) (am_ke q9) ⟨rfl, rfl, Nat.le_of_ble_eq_true rfl, Nat.le_of_ble_eq_true rfl⟩ rfl (Nat.le_of_ble_eq_true rfl) ⟨Nat.le_of_ble_eq_true rfl, Nat.le_of_ble_eq_true rfl⟩ ?_
      refine am_aload_n cx 0 dX12_isBeside_35 rfl ?_
      refine am_iload_n cx 1 dX12_isBeside_36 rfl ?_
      refine am_iconst cx (v := (4 : Int32)) dX12_isBeside_37 (by decide) ?_
      refine am_iload_n cx 2 dX12_isBeside_38 rfl ?_
      refine am_iadd cx dX12_isBeside_39 ?_
      refine am_iconst cx (v := (1 : Int32)) dX12_isBeside_40 (by decide) ?_
      refine am_isub cx dX12_isBeside_41 ?_
      obtain ⟨q13, hres⟩ := am_ck_some hres
      obtain ⟨v14, M15, q16, hres⟩ := am_bd_some hres
      refine am_callV1 cx [.inl x1, .inl (((4 : Int32) + x2) - (1 : Int32))] dX12_isBeside_42 cvX12_306 (mt12_of q16) (am_ke q13) ⟨rfl, rfl, Nat.le_of_ble_eq_true rfl, Nat.le_of_ble_eq_true rfl⟩ rfl (Nat.le_of_ble_eq_true rfl) ⟨Nat.le_of_ble_eq_true rfl, Nat.le_of_ble_eq_true rfl⟩ ?_
      refine am_aload_n cx 0 dX12_isBeside_45 rfl ?_
      refine am_iload_n cx 1 dX12_isBeside_46 rfl ?_
      refine am_bipush cx (v := (84 : Int32)) dX12_isBeside_47 (by decide) ?_
      refine am_iload_n cx 2 dX12_isBeside_49 rfl ?_
      refine am_iadd cx dX12_isBeside_50 ?_
      refine am_iconst cx (v := (1 : Int32)) dX12_isBeside_51 (by decide) ?_
      refine am_isub cx dX12_isBeside_52 ?_
      obtain ⟨q17, hres⟩ := am_ck_some hres
      obtain ⟨v18, M19, q20, hres⟩ := am_bd_some hres
      refine am_callV1 cx [.inl x1, .inl (((84 : Int32) + x2) - (1 : Int32))] dX12_isBeside_53 cvX12_306 (mt12_of q20) (am_ke q17) ⟨rfl, rfl, Nat.le_of_ble_eq_true rfl, Nat.le_of_ble_eq_true rfl⟩ rfl (Nat.le_of_ble_eq_true rfl) ⟨Nat.le_of_ble_eq_true rfl, Nat.le_of_ble_eq_true rfl⟩ ?_
      refine am_iadd cx dX12_isBeside_56 ?_
      refine am_icmp_ne cx (tgt := 64) dX12_isBeside_57 (by decide) (fun h => ?_) (fun h => ?_)
      · have hres := am_ifn h hres
        refine am_sub cx [] rfl ?_
        exact sn12_isBeside_b64 cx  hres
      · have hres := am_ifp h hres
        refine am_iconst cx (v := (1 : Int32)) dX12_isBeside_60 (by decide) ?_
        refine am_goto cx (tgt := 65) dX12_isBeside_61 (by decide) ?_
        refine am_sub cx [] rfl ?_
        exact sn12_isBeside_b65 cx  hres
set_option maxRecDepth 20000 in
theorem mt12_isBeside {l : Launch} {v : Int32} {M M' : am_Mem} {r0 : Nat} {x1 : Int32} {x2 : Int32} (h : fn12_isBeside M r0 x1 x2 = some (v, M')) : am_Met l yX12_isBeside cX12_isBeside 3 (some .boolean) rm12_isBeside 0 0 [.inr (.inr (.inl r0)), .inl x1, .inl x2] M (some (.inl v)) M' := am_mk (by decide) (Nat.le_of_ble_eq_true rfl) (fun G cx => (sn12_isBeside_b0 cx h))
-- SquareCutsModel.prints
def fn12_prints_b0  (r0 : Nat) (x1 : Int32) (M : am_Mem) : Option (Unit × am_Mem) :=
  am_ck (am_k M r0 12) (am_ck (am_k M (am_R M r0 41) 13) (am_ck (am_in (am_I M r0 42) (am_L M (am_R M r0 41))) (some ((), (am_wI (am_wI M (am_R M r0 41) (am_I M r0 42).toNatClampNeg (x1.toInt8.toInt32.toInt8.toInt32)) r0 42 ((am_I (am_wI M (am_R M r0 41) (am_I M r0 42).toNatClampNeg (x1.toInt8.toInt32.toInt8.toInt32)) r0 42) + (1 : Int32)))))))
def fn12_prints (M : am_Mem) (r0 : Nat) (x1 : Int32) : Option (Unit × am_Mem) := fn12_prints_b0  r0 x1 M
def rm12_prints : Room := { frames := 0, cells := 0, slots := 0, locals := 0 }
set_option maxRecDepth 20000 in
theorem sn12_prints_b0 {l : Launch} {G : am_G} {M' : am_Mem}  (cx : am_Ctx l rm12_prints yX12_prints cX12_prints 2 none none M' 0 0 G)  {r0 : Nat} {x1 : Int32} {M : am_Mem} (hres : fn12_prints_b0  r0 x1 M = some ((), M')) : G 0 [(0, .inr (.inr (.inl r0))), (1, .inl x1)] [] M 0 0 := by
  unfold fn12_prints_b0 at hres
  refine am_aload_n cx 0 dX12_prints_0 rfl ?_
  obtain ⟨q1, hres⟩ := am_ck_some hres
  refine am_getR cx dX12_prints_1 flX12_85 (am_ke q1) ?_
  refine am_aload_n cx 0 dX12_prints_4 rfl ?_
  refine am_getI cx dX12_prints_5 flX12_342 (am_ke q1) ?_
  refine am_iload_n cx 1 dX12_prints_8 rfl ?_
  refine am_i2b cx dX12_prints_9 ?_
  obtain ⟨q2, hres⟩ := am_ck_some hres
  obtain ⟨q3, hres⟩ := am_ck_some hres
  refine am_bast cx dX12_prints_10 (am_ke q2) q3  ?_
  refine am_aload_n cx 0 dX12_prints_11 rfl ?_
  refine am_dup cx dX12_prints_12 rfl ?_
  refine am_getI cx dX12_prints_13 flX12_342 (am_ke q1) ?_
  refine am_iconst cx (v := (1 : Int32)) dX12_prints_16 (by decide) ?_
  refine am_iadd cx dX12_prints_17 ?_
  refine am_putI cx dX12_prints_18 fpX12_342 (fun h => by cases h) (am_ke q1) ?_
  obtain ⟨-, rfl⟩ := am_fin hres
  exact am_vret cx dX12_prints_21
set_option maxRecDepth 20000 in
theorem mt12_prints {l : Launch} {M M' : am_Mem} {r0 : Nat} {x1 : Int32} (h : fn12_prints M r0 x1 = some ((), M')) : am_Met l yX12_prints cX12_prints 2 none rm12_prints 0 0 [.inr (.inr (.inl r0)), .inl x1] M none M' := am_mk (by decide) (Nat.le_of_ble_eq_true rfl) (fun G cx => (sn12_prints_b0 cx h))
-- SquareCutsModel.printsNumber
def fn12_printsNumber_b40 (N : Nat) (k18 : Nat → Int32 → Int32 → am_Mem → Option (Unit × am_Mem)) (r0 : Nat) (x1 : Int32) (x2 : Int32) (M : am_Mem) : Option (Unit × am_Mem) :=
  k18 r0 x1 x2 M
def fn12_printsNumber_b18B (N : Nat) (k18 : Nat → Int32 → Int32 → am_Mem → Option (Unit × am_Mem)) (r0 : Nat) (x1 : Int32) (x2 : Int32) (M : am_Mem) : Option (Unit × am_Mem) :=
  if x2 ≤ 0 then some ((), M) else am_ck (decide (¬ x2 = 0)) (am_ck (am_k M r0 12) (am_bd (fn12_prints M r0 ((48 : Int32) + ((x1 / x2) - (x1 / x2) / (10 : Int32) * (10 : Int32)))) (fun v3 M4 => fn12_printsNumber_b40 N k18 r0 x1 (x2 / (10 : Int32)) M4)))
def fn12_printsNumber_b18 (N : Nat)  : Nat → Nat → Int32 → Int32 → am_Mem → Option (Unit × am_Mem)
  | 0 => fun _ _ _ _ => none
  | i + 1 => fn12_printsNumber_b18B N (fn12_printsNumber_b18 N  i)
def fn12_printsNumber_b15 (N : Nat) (k2 : Nat → Int32 → Int32 → am_Mem → Option (Unit × am_Mem)) (r0 : Nat) (x1 : Int32) (x2 : Int32) (M : am_Mem) : Option (Unit × am_Mem) :=
  k2 r0 x1 x2 M
def fn12_printsNumber_b2B (N : Nat) (k2 : Nat → Int32 → Int32 → am_Mem → Option (Unit × am_Mem)) (r0 : Nat) (x1 : Int32) (x2 : Int32) (M : am_Mem) : Option (Unit × am_Mem) :=
  am_ck (decide (¬ x2 = 0)) (if (x1 / x2) < (10 : Int32) then fn12_printsNumber_b18 N  N r0 x1 x2 M else fn12_printsNumber_b15 N k2 r0 x1 (x2 * (10 : Int32)) M)
def fn12_printsNumber_b2 (N : Nat)  : Nat → Nat → Int32 → Int32 → am_Mem → Option (Unit × am_Mem)
  | 0 => fun _ _ _ _ => none
  | i + 1 => fn12_printsNumber_b2B N (fn12_printsNumber_b2 N  i)
def fn12_printsNumber_b0 (N : Nat)  (r0 : Nat) (x1 : Int32) (M : am_Mem) : Option (Unit × am_Mem) :=
  fn12_printsNumber_b2 N  N r0 x1 (1 : Int32) M
def fn12_printsNumber (N : Nat) (M : am_Mem) (r0 : Nat) (x1 : Int32) : Option (Unit × am_Mem) := fn12_printsNumber_b0 N r0 x1 M
def rm12_printsNumber : Room := { frames := 1, cells := 0, slots := 0, locals := 21 }
set_option maxRecDepth 20000 in
theorem sn12_printsNumber_b40 {l : Launch} {G : am_G} {M' : am_Mem} {N : Nat} {k18 : Nat → Int32 → Int32 → am_Mem → Option (Unit × am_Mem)} (cx : am_Ctx l rm12_printsNumber yX12_printsNumber cX12_printsNumber 3 none none M' 0 0 G) (hk18 : ∀ (r0 : Nat) (x1 : Int32) (x2 : Int32) (M : am_Mem), k18 r0 x1 x2 M = some ((), M') → G 18 [(0, .inr (.inr (.inl r0))), (1, .inl x1), (2, .inl x2)] [] M 0 0) {r0 : Nat} {x1 : Int32} {x2 : Int32} {M : am_Mem} (hres : fn12_printsNumber_b40 N k18 r0 x1 x2 M = some ((), M')) : G 40 [(0, .inr (.inr (.inl r0))), (1, .inl x1), (2, .inl x2)] [] M 0 0 := by
  unfold fn12_printsNumber_b40 at hres
  refine am_goto cx (tgt := 18) dX12_printsNumber_40 (by decide) ?_
  exact hk18 _ _ _ _ hres
set_option maxRecDepth 20000 in
theorem sn12_printsNumber_b18B {l : Launch} {G : am_G} {M' : am_Mem} {N : Nat} {k18 : Nat → Int32 → Int32 → am_Mem → Option (Unit × am_Mem)} (cx : am_Ctx l rm12_printsNumber yX12_printsNumber cX12_printsNumber 3 none none M' 0 0 G) (hk18 : ∀ (r0 : Nat) (x1 : Int32) (x2 : Int32) (M : am_Mem), k18 r0 x1 x2 M = some ((), M') → G 18 [(0, .inr (.inr (.inl r0))), (1, .inl x1), (2, .inl x2)] [] M 0 0) {r0 : Nat} {x1 : Int32} {x2 : Int32} {M : am_Mem} (hres : fn12_printsNumber_b18B N k18 r0 x1 x2 M = some ((), M')) : G 18 [(0, .inr (.inr (.inl r0))), (1, .inl x1), (2, .inl x2)] [] M 0 0 := by
  unfold fn12_printsNumber_b18B at hres
  refine am_iload_n cx 2 dX12_printsNumber_18 rfl ?_
  refine am_if_le cx (tgt := 43) dX12_printsNumber_19 (by decide) (fun h => ?_) (fun h => ?_)
  · have hres := am_ifp h hres
    obtain ⟨-, rfl⟩ := am_fin hres
    exact am_vret cx dX12_printsNumber_43
  · have hres := am_ifn h hres
    refine am_aload_n cx 0 dX12_printsNumber_22 rfl ?_
    refine am_bipush cx (v := (48 : Int32)) dX12_printsNumber_23 (by decide) ?_
    refine am_iload_n cx 1 dX12_printsNumber_25 rfl ?_
    refine am_iload_n cx 2 dX12_printsNumber_26 rfl ?_
    obtain ⟨q1, hres⟩ := am_ck_some hres
    refine am_idiv cx dX12_printsNumber_27 (of_decide_eq_true q1) ?_
    refine am_bipush cx (v := (10 : Int32)) dX12_printsNumber_28 (by decide) ?_
    refine am_irem cx dX12_printsNumber_30 (by decide) ?_
    refine am_iadd cx dX12_printsNumber_31 ?_
    obtain ⟨q2, hres⟩ := am_ck_some hres
    obtain ⟨v3, M4, q5, hres⟩ := am_bd_some hres
    refine am_callV0 cx [.inl ((48 : Int32) + ((x1 / x2) - (x1 / x2) / (10 : Int32) * (10 : Int32)))] dX12_printsNumber_32 cvX12_345 (mt12_prints q5) (am_ke q2) ⟨rfl, rfl, Nat.le_of_ble_eq_true rfl, Nat.le_of_ble_eq_true rfl⟩ rfl (Nat.le_of_ble_eq_true rfl) ⟨Nat.le_of_ble_eq_true rfl, Nat.le_of_ble_eq_true rfl⟩ ?_
    refine am_iload_n cx 2 dX12_printsNumber_35 rfl ?_
    refine am_bipush cx (v := (10 : Int32)) dX12_printsNumber_36 (by decide) ?_
    refine am_idiv cx dX12_printsNumber_38 (by decide) ?_
    refine am_istore_n cx (lv' := [(0, .inr (.inr (.inl r0))), (1, .inl x1), (2, .inl (x2 / (10 : Int32)))]) dX12_printsNumber_39 (Nat.le_of_ble_eq_true rfl) rfl ?_
    exact sn12_printsNumber_b40 cx hk18 hres
set_option maxRecDepth 20000 in
theorem sn12_printsNumber_b18 {l : Launch} {G : am_G} {M' : am_Mem} {N : Nat}  (cx : am_Ctx l rm12_printsNumber yX12_printsNumber cX12_printsNumber 3 none none M' 0 0 G)  (i : Nat) : ∀ (r0 : Nat) (x1 : Int32) (x2 : Int32) (M : am_Mem), fn12_printsNumber_b18 N  i r0 x1 x2 M = some ((), M') → G 18 [(0, .inr (.inr (.inl r0))), (1, .inl x1), (2, .inl x2)] [] M 0 0 := by
  induction i with
  | zero => intro r0 x1 x2 M hres; exact am_no hres
  | succ i ih => intro r0 x1 x2 M hres; exact sn12_printsNumber_b18B cx ih hres
set_option maxRecDepth 20000 in
theorem sn12_printsNumber_b15 {l : Launch} {G : am_G} {M' : am_Mem} {N : Nat} {k2 : Nat → Int32 → Int32 → am_Mem → Option (Unit × am_Mem)} (cx : am_Ctx l rm12_printsNumber yX12_printsNumber cX12_printsNumber 3 none none M' 0 0 G) (hk2 : ∀ (r0 : Nat) (x1 : Int32) (x2 : Int32) (M : am_Mem), k2 r0 x1 x2 M = some ((), M') → G 2 [(0, .inr (.inr (.inl r0))), (1, .inl x1), (2, .inl x2)] [] M 0 0) {r0 : Nat} {x1 : Int32} {x2 : Int32} {M : am_Mem} (hres : fn12_printsNumber_b15 N k2 r0 x1 x2 M = some ((), M')) : G 15 [(0, .inr (.inr (.inl r0))), (1, .inl x1), (2, .inl x2)] [] M 0 0 := by
  unfold fn12_printsNumber_b15 at hres
  refine am_goto cx (tgt := 2) dX12_printsNumber_15 (by decide) ?_
  exact hk2 _ _ _ _ hres
set_option maxRecDepth 20000 in
theorem sn12_printsNumber_b2B {l : Launch} {G : am_G} {M' : am_Mem} {N : Nat} {k2 : Nat → Int32 → Int32 → am_Mem → Option (Unit × am_Mem)} (cx : am_Ctx l rm12_printsNumber yX12_printsNumber cX12_printsNumber 3 none none M' 0 0 G) (hk2 : ∀ (r0 : Nat) (x1 : Int32) (x2 : Int32) (M : am_Mem), k2 r0 x1 x2 M = some ((), M') → G 2 [(0, .inr (.inr (.inl r0))), (1, .inl x1), (2, .inl x2)] [] M 0 0) {r0 : Nat} {x1 : Int32} {x2 : Int32} {M : am_Mem} (hres : fn12_printsNumber_b2B N k2 r0 x1 x2 M = some ((), M')) : G 2 [(0, .inr (.inr (.inl r0))), (1, .inl x1), (2, .inl x2)] [] M 0 0 := by
  unfold fn12_printsNumber_b2B at hres
  refine am_iload_n cx 1 dX12_printsNumber_2 rfl ?_
  refine am_iload_n cx 2 dX12_printsNumber_3 rfl ?_
  obtain ⟨q1, hres⟩ := am_ck_some hres
  refine am_idiv cx dX12_printsNumber_4 (of_decide_eq_true q1) ?_
  refine am_bipush cx (v := (10 : Int32)) dX12_printsNumber_5 (by decide) ?_
  refine am_icmp_lt cx (tgt := 18) dX12_printsNumber_7 (by decide) (fun h => ?_) (fun h => ?_)
  · have hres := am_ifp h hres
    exact sn12_printsNumber_b18 cx  N _ _ _ _ hres
  · have hres := am_ifn h hres
    refine am_iload_n cx 2 dX12_printsNumber_10 rfl ?_
    refine am_bipush cx (v := (10 : Int32)) dX12_printsNumber_11 (by decide) ?_
    refine am_imul cx dX12_printsNumber_13 ?_
    refine am_istore_n cx (lv' := [(0, .inr (.inr (.inl r0))), (1, .inl x1), (2, .inl (x2 * (10 : Int32)))]) dX12_printsNumber_14 (Nat.le_of_ble_eq_true rfl) rfl ?_
    exact sn12_printsNumber_b15 cx hk2 hres
set_option maxRecDepth 20000 in
theorem sn12_printsNumber_b2 {l : Launch} {G : am_G} {M' : am_Mem} {N : Nat}  (cx : am_Ctx l rm12_printsNumber yX12_printsNumber cX12_printsNumber 3 none none M' 0 0 G)  (i : Nat) : ∀ (r0 : Nat) (x1 : Int32) (x2 : Int32) (M : am_Mem), fn12_printsNumber_b2 N  i r0 x1 x2 M = some ((), M') → G 2 [(0, .inr (.inr (.inl r0))), (1, .inl x1), (2, .inl x2)] [] M 0 0 := by
  induction i with
  | zero => intro r0 x1 x2 M hres; exact am_no hres
  | succ i ih => intro r0 x1 x2 M hres; exact sn12_printsNumber_b2B cx ih hres
set_option maxRecDepth 20000 in
theorem sn12_printsNumber_b0 {l : Launch} {G : am_G} {M' : am_Mem} {N : Nat}  (cx : am_Ctx l rm12_printsNumber yX12_printsNumber cX12_printsNumber 3 none none M' 0 0 G)  {r0 : Nat} {x1 : Int32} {M : am_Mem} (hres : fn12_printsNumber_b0 N  r0 x1 M = some ((), M')) : G 0 [(0, .inr (.inr (.inl r0))), (1, .inl x1)] [] M 0 0 := by
  unfold fn12_printsNumber_b0 at hres
  refine am_iconst cx (v := (1 : Int32)) dX12_printsNumber_0 (by decide) ?_
  refine am_istore_n cx (lv' := [(0, .inr (.inr (.inl r0))), (1, .inl x1), (2, .inl (1 : Int32))]) dX12_printsNumber_1 (Nat.le_of_ble_eq_true rfl) rfl ?_
  exact sn12_printsNumber_b2 cx  N _ _ _ _ hres
set_option maxRecDepth 20000 in
theorem mt12_printsNumber {l : Launch} {M M' : am_Mem} {N : Nat} {r0 : Nat} {x1 : Int32} (h : fn12_printsNumber N M r0 x1 = some ((), M')) : am_Met l yX12_printsNumber cX12_printsNumber 3 none rm12_printsNumber 0 0 [.inr (.inr (.inl r0)), .inl x1] M none M' := am_mk (by decide) (Nat.le_of_ble_eq_true rfl) (fun G cx => (sn12_printsNumber_b0 cx h))
-- SquareCutsModel.print
def fn12_print_b79 (N : Nat) (k33 : Nat → Int32 → Int32 → am_Mem → Option (Int32 × am_Mem)) (c0 : Nat) (a1 : Int32) (r0 : Nat) (x1 : Int32) (x2 : Int32) (M : am_Mem) : Option (Int32 × am_Mem) :=
  am_ck (am_k M c0 12) (am_bd (fn12_prints M c0 a1) (fun v2 M3 => am_ck (am_k M3 r0 12) (am_bd (fn12_of M3 r0 x1 ((84 : Int32) + x2)) (fun v6 M7 => am_ck (am_k M7 r0 12) (am_bd (fn12_printsNumber N M7 r0 v6) (fun v10 M11 => k33 r0 x1 (x2 + (1 : Int32)) M11))))))
def fn12_print_b62 (N : Nat) (k33 : Nat → Int32 → Int32 → am_Mem → Option (Int32 × am_Mem)) (r0 : Nat) (x1 : Int32) (x2 : Int32) (M : am_Mem) : Option (Int32 × am_Mem) :=
  am_ck (am_k M r0 12) (am_bd (fn12_isBeside M r0 x1 x2) (fun v2 M3 => if v2 = 0 then fn12_print_b79 N k33 r0 (40 : Int32) r0 x1 x2 M3 else fn12_print_b79 N k33 r0 (32 : Int32) r0 x1 x2 M3))
def fn12_print_b33B (N : Nat) (k33 : Nat → Int32 → Int32 → am_Mem → Option (Int32 × am_Mem)) (r0 : Nat) (x1 : Int32) (x2 : Int32) (M : am_Mem) : Option (Int32 × am_Mem) :=
  am_ck (am_k M r0 12) (am_bd (fn12_of M r0 x1 (0 : Int32)) (fun v2 M3 => if v2 ≤ x2 then am_ck (am_k M3 r0 12) (am_bd (fn12_prints M3 r0 (41 : Int32)) (fun v6 M7 => am_ck (am_k M7 r0 12) (some ((am_I M7 r0 42), M7)))) else if x2 ≤ 0 then fn12_print_b62 N k33 r0 x1 x2 M3 else am_ck (am_k M3 r0 12) (am_bd (fn12_isBeside M3 r0 x1 x2) (fun v11 M12 => if v11 = 0 then am_ck (am_k M12 r0 12) (am_bd (fn12_prints M12 r0 (41 : Int32)) (fun v15 M16 => fn12_print_b62 N k33 r0 x1 x2 M16)) else fn12_print_b62 N k33 r0 x1 x2 M12))))
def fn12_print_b33 (N : Nat)  : Nat → Nat → Int32 → Int32 → am_Mem → Option (Int32 × am_Mem)
  | 0 => fun _ _ _ _ => none
  | i + 1 => fn12_print_b33B N (fn12_print_b33 N  i)
def fn12_print_b0 (N : Nat)  (r0 : Nat) (x1 : Int32) (M : am_Mem) : Option (Int32 × am_Mem) :=
  am_ck (am_k M r0 12) (am_bd (fn12_isRect (am_wI M r0 0 (0 : Int32)) r0 x1) (fun v2 M3 => if v2 = 0 then some ((-1 : Int32), M3) else am_ck (am_k M3 r0 12) (am_bd (fn12_doesFail M3 r0 x1) (fun v6 M7 => if v6 = 0 then am_ck (am_k M7 r0 12) (fn12_print_b33 N  N r0 x1 (0 : Int32) (am_wI M7 r0 42 (0 : Int32))) else some ((-2 : Int32), M7)))))
def fn12_print (N : Nat) (M : am_Mem) (r0 : Nat) (x1 : Int32) : Option (Int32 × am_Mem) := fn12_print_b0 N r0 x1 M
def rm12_print : Room := { frames := 2, cells := 0, slots := 0, locals := 46 }
set_option maxRecDepth 20000 in
theorem sn12_print_b79 {l : Launch} {G : am_G} {v : Int32} {M' : am_Mem} {N : Nat} {k33 : Nat → Int32 → Int32 → am_Mem → Option (Int32 × am_Mem)} (cx : am_Ctx l rm12_print yX12_print cX12_print 3 (some .int) (some (.inl v)) M' 0 0 G) (hk33 : ∀ (r0 : Nat) (x1 : Int32) (x2 : Int32) (M : am_Mem), k33 r0 x1 x2 M = some (v, M') → G 33 [(0, .inr (.inr (.inl r0))), (1, .inl x1), (2, .inl x2)] [] M 0 0) {c0 : Nat} {a1 : Int32} {r0 : Nat} {x1 : Int32} {x2 : Int32} {M : am_Mem} (hres : fn12_print_b79 N k33 c0 a1 r0 x1 x2 M = some (v, M')) : G 79 [(0, .inr (.inr (.inl r0))), (1, .inl x1), (2, .inl x2)] [.inl a1, .inr (.inr (.inl c0))] M 0 0 := by
  unfold fn12_print_b79 at hres
  obtain ⟨q1, hres⟩ := am_ck_some hres
  obtain ⟨v2, M3, q4, hres⟩ := am_bd_some hres
  refine am_callV0 cx [.inl a1] dX12_print_79 cvX12_345 (mt12_prints q4) (am_ke q1) ⟨rfl, rfl, Nat.le_of_ble_eq_true rfl, Nat.le_of_ble_eq_true rfl⟩ rfl (Nat.le_of_ble_eq_true rfl) ⟨Nat.le_of_ble_eq_true rfl, Nat.le_of_ble_eq_true rfl⟩ ?_
  refine am_aload_n cx 0 dX12_print_82 rfl ?_
  refine am_aload_n cx 0 dX12_print_83 rfl ?_
  refine am_iload_n cx 1 dX12_print_84 rfl ?_
  refine am_bipush cx (v := (84 : Int32)) dX12_print_85 (by decide) ?_
  refine am_iload_n cx 2 dX12_print_87 rfl ?_
  refine am_iadd cx dX12_print_88 ?_
  obtain ⟨q5, hres⟩ := am_ck_some hres
  obtain ⟨v6, M7, q8, hres⟩ := am_bd_some hres
  refine am_callV1 cx [.inl x1, .inl ((84 : Int32) + x2)] dX12_print_89 cvX12_306 (mt12_of q8) (am_ke q5) ⟨rfl, rfl, Nat.le_of_ble_eq_true rfl, Nat.le_of_ble_eq_true rfl⟩ rfl (Nat.le_of_ble_eq_true rfl) ⟨Nat.le_of_ble_eq_true rfl, Nat.le_of_ble_eq_true rfl⟩ ?_
  obtain ⟨q9, hres⟩ := am_ck_some hres
  obtain ⟨v10, M11, q12, hres⟩ := am_bd_some hres
  refine am_callV0 cx [.inl v6] dX12_print_92 cvX12_351 (mt12_printsNumber q12) (am_ke q9) ⟨rfl, rfl, Nat.le_of_ble_eq_true rfl, Nat.le_of_ble_eq_true rfl⟩ rfl (Nat.le_of_ble_eq_true rfl) ⟨Nat.le_of_ble_eq_true rfl, Nat.le_of_ble_eq_true rfl⟩ ?_
  refine am_iincw cx (lv' := [(0, .inr (.inr (.inl r0))), (1, .inl x1), (2, .inl (x2 + (1 : Int32)))]) (w := (1 : Int32)) 2 dX12_print_95 (by decide) rfl (Nat.le_of_ble_eq_true rfl) rfl ?_
  refine am_goto cx (tgt := 33) dX12_print_98 (by decide) ?_
  exact hk33 _ _ _ _ hres
set_option maxRecDepth 20000 in
theorem sn12_print_b62 {l : Launch} {G : am_G} {v : Int32} {M' : am_Mem} {N : Nat} {k33 : Nat → Int32 → Int32 → am_Mem → Option (Int32 × am_Mem)} (cx : am_Ctx l rm12_print yX12_print cX12_print 3 (some .int) (some (.inl v)) M' 0 0 G) (hk33 : ∀ (r0 : Nat) (x1 : Int32) (x2 : Int32) (M : am_Mem), k33 r0 x1 x2 M = some (v, M') → G 33 [(0, .inr (.inr (.inl r0))), (1, .inl x1), (2, .inl x2)] [] M 0 0) {r0 : Nat} {x1 : Int32} {x2 : Int32} {M : am_Mem} (hres : fn12_print_b62 N k33 r0 x1 x2 M = some (v, M')) : G 62 [(0, .inr (.inr (.inl r0))), (1, .inl x1), (2, .inl x2)] [] M 0 0 := by
  unfold fn12_print_b62 at hres
  refine am_aload_n cx 0 dX12_print_62 rfl ?_
  refine am_aload_n cx 0 dX12_print_63 rfl ?_
  refine am_iload_n cx 1 dX12_print_64 rfl ?_
  refine am_iload_n cx 2 dX12_print_65 rfl ?_
  obtain ⟨q1, hres⟩ := am_ck_some hres
  obtain ⟨v2, M3, q4, hres⟩ := am_bd_some hres
  refine am_callV1 cx [.inl x1, .inl x2] dX12_print_66 cvX12_348 (mt12_isBeside q4) (am_ke q1) ⟨rfl, rfl, Nat.le_of_ble_eq_true rfl, Nat.le_of_ble_eq_true rfl⟩ rfl (Nat.le_of_ble_eq_true rfl) ⟨Nat.le_of_ble_eq_true rfl, Nat.le_of_ble_eq_true rfl⟩ ?_
  refine am_if_eq cx (tgt := 77) dX12_print_69 (by decide) (fun h => ?_) (fun h => ?_)
  · have hres := am_ifp h hres
    refine am_bipush cx (v := (40 : Int32)) dX12_print_77 (by decide) ?_
    exact sn12_print_b79 cx hk33 hres
  · have hres := am_ifn h hres
    refine am_bipush cx (v := (32 : Int32)) dX12_print_72 (by decide) ?_
    refine am_goto cx (tgt := 79) dX12_print_74 (by decide) ?_
    exact sn12_print_b79 cx hk33 hres
set_option maxRecDepth 20000 in
theorem sn12_print_b33B {l : Launch} {G : am_G} {v : Int32} {M' : am_Mem} {N : Nat} {k33 : Nat → Int32 → Int32 → am_Mem → Option (Int32 × am_Mem)} (cx : am_Ctx l rm12_print yX12_print cX12_print 3 (some .int) (some (.inl v)) M' 0 0 G) (hk33 : ∀ (r0 : Nat) (x1 : Int32) (x2 : Int32) (M : am_Mem), k33 r0 x1 x2 M = some (v, M') → G 33 [(0, .inr (.inr (.inl r0))), (1, .inl x1), (2, .inl x2)] [] M 0 0) {r0 : Nat} {x1 : Int32} {x2 : Int32} {M : am_Mem} (hres : fn12_print_b33B N k33 r0 x1 x2 M = some (v, M')) : G 33 [(0, .inr (.inr (.inl r0))), (1, .inl x1), (2, .inl x2)] [] M 0 0 := by
  unfold fn12_print_b33B at hres
  refine am_iload_n cx 2 dX12_print_33 rfl ?_
  refine am_aload_n cx 0 dX12_print_34 rfl ?_
  refine am_iload_n cx 1 dX12_print_35 rfl ?_
  refine am_iconst cx (v := (0 : Int32)) dX12_print_36 (by decide) ?_
  obtain ⟨q1, hres⟩ := am_ck_some hres
  obtain ⟨v2, M3, q4, hres⟩ := am_bd_some hres
  refine am_callV1 cx [.inl x1, .inl (0 : Int32)] dX12_print_37 cvX12_306 (mt12_of q4) (am_ke q1) ⟨rfl, rfl, Nat.le_of_ble_eq_true rfl, Nat.le_of_ble_eq_true rfl⟩ rfl (Nat.le_of_ble_eq_true rfl) ⟨Nat.le_of_ble_eq_true rfl, Nat.le_of_ble_eq_true rfl⟩ ?_
  refine am_icmp_ge cx (tgt := 101) dX12_print_40 (by decide) (fun h => ?_) (fun h => ?_)
  · have hres := am_ifp h hres
    refine am_aload_n cx 0 dX12_print_101 rfl ?_
    refine am_bipush cx (v := (41 : Int32)) dX12_print_102 (by decide) ?_
    obtain ⟨q5, hres⟩ := am_ck_some hres
    obtain ⟨v6, M7, q8, hres⟩ := am_bd_some hres
    refine am_callV0 cx [.inl (41 : Int32)] dX12_print_104 cvX12_345 (mt12_prints q8) (am_ke q5) ⟨rfl, rfl, Nat.le_of_ble_eq_true rfl, Nat.le_of_ble_eq_true rfl⟩ rfl (Nat.le_of_ble_eq_true rfl) ⟨Nat.le_of_ble_eq_true rfl, Nat.le_of_ble_eq_true rfl⟩ ?_
    refine am_aload_n cx 0 dX12_print_107 rfl ?_
    obtain ⟨q9, hres⟩ := am_ck_some hres
    refine am_getI cx dX12_print_108 flX12_342 (am_ke q9) ?_
    obtain ⟨rfl, rfl⟩ := am_fin hres
    exact am_iret cx dX12_print_111
  · have hres := am_ifn h hres
    refine am_iload_n cx 2 dX12_print_43 rfl ?_
    refine am_if_le cx (tgt := 62) dX12_print_44 (by decide) (fun h => ?_) (fun h => ?_)
    · have hres := am_ifp h hres
      exact sn12_print_b62 cx hk33 hres
    · have hres := am_ifn h hres
      refine am_aload_n cx 0 dX12_print_47 rfl ?_
      refine am_iload_n cx 1 dX12_print_48 rfl ?_
      refine am_iload_n cx 2 dX12_print_49 rfl ?_
      obtain ⟨q10, hres⟩ := am_ck_some hres
      obtain ⟨v11, M12, q13, hres⟩ := am_bd_some hres
      refine am_callV1 cx [.inl x1, .inl x2] dX12_print_50 cvX12_348 (mt12_isBeside q13) (am_ke q10) ⟨rfl, rfl, Nat.le_of_ble_eq_true rfl, Nat.le_of_ble_eq_true rfl⟩ rfl (Nat.le_of_ble_eq_true rfl) ⟨Nat.le_of_ble_eq_true rfl, Nat.le_of_ble_eq_true rfl⟩ ?_
      refine am_if_ne cx (tgt := 62) dX12_print_53 (by decide) (fun h => ?_) (fun h => ?_)
      · have hres := am_ifn h hres
        exact sn12_print_b62 cx hk33 hres
      · have hres := am_ifp h hres
        refine am_aload_n cx 0 dX12_print_56 rfl ?_
        refine am_bipush cx (v := (41 : Int32)) dX12_print_57 (by decide) ?_
        obtain ⟨q14, hres⟩ := am_ck_some hres
        obtain ⟨v15, M16, q17, hres⟩ := am_bd_some hres
        refine am_callV0 cx [.inl (41 : Int32)] dX12_print_59 cvX12_345 (mt12_prints q17) (am_ke q14) ⟨rfl, rfl, Nat.le_of_ble_eq_true rfl, Nat.le_of_ble_eq_true rfl⟩ rfl (Nat.le_of_ble_eq_true rfl) ⟨Nat.le_of_ble_eq_true rfl, Nat.le_of_ble_eq_true rfl⟩ ?_
        exact sn12_print_b62 cx hk33 hres
set_option maxRecDepth 20000 in
theorem sn12_print_b33 {l : Launch} {G : am_G} {v : Int32} {M' : am_Mem} {N : Nat}  (cx : am_Ctx l rm12_print yX12_print cX12_print 3 (some .int) (some (.inl v)) M' 0 0 G)  (i : Nat) : ∀ (r0 : Nat) (x1 : Int32) (x2 : Int32) (M : am_Mem), fn12_print_b33 N  i r0 x1 x2 M = some (v, M') → G 33 [(0, .inr (.inr (.inl r0))), (1, .inl x1), (2, .inl x2)] [] M 0 0 := by
  induction i with
  | zero => intro r0 x1 x2 M hres; exact am_no hres
  | succ i ih => intro r0 x1 x2 M hres; exact sn12_print_b33B cx ih hres
set_option maxRecDepth 20000 in
theorem sn12_print_b0 {l : Launch} {G : am_G} {v : Int32} {M' : am_Mem} {N : Nat}  (cx : am_Ctx l rm12_print yX12_print cX12_print 3 (some .int) (some (.inl v)) M' 0 0 G)  {r0 : Nat} {x1 : Int32} {M : am_Mem} (hres : fn12_print_b0 N  r0 x1 M = some (v, M')) : G 0 [(0, .inr (.inr (.inl r0))), (1, .inl x1)] [] M 0 0 := by
  unfold fn12_print_b0 at hres
  refine am_aload_n cx 0 dX12_print_0 rfl ?_
  refine am_iconst cx (v := (0 : Int32)) dX12_print_1 (by decide) ?_
  obtain ⟨q1, hres⟩ := am_ck_some hres
  refine am_putI cx dX12_print_2 fpX12_103 (fun h => by cases h) (am_ke q1) ?_
  refine am_aload_n cx 0 dX12_print_5 rfl ?_
  refine am_iload_n cx 1 dX12_print_6 rfl ?_
  obtain ⟨v2, M3, q4, hres⟩ := am_bd_some hres
  refine am_callV1 cx [.inl x1] dX12_print_7 cvX12_316 (mt12_isRect q4) (am_ke q1) ⟨rfl, rfl, Nat.le_of_ble_eq_true rfl, Nat.le_of_ble_eq_true rfl⟩ rfl (Nat.le_of_ble_eq_true rfl) ⟨Nat.le_of_ble_eq_true rfl, Nat.le_of_ble_eq_true rfl⟩ ?_
  refine am_if_ne cx (tgt := 15) dX12_print_10 (by decide) (fun h => ?_) (fun h => ?_)
  · have hres := am_ifn h hres
    refine am_aload_n cx 0 dX12_print_15 rfl ?_
    refine am_iload_n cx 1 dX12_print_16 rfl ?_
    obtain ⟨q5, hres⟩ := am_ck_some hres
    obtain ⟨v6, M7, q8, hres⟩ := am_bd_some hres
    refine am_callV1 cx [.inl x1] dX12_print_17 cvX12_325 (mt12_doesFail q8) (am_ke q5) ⟨rfl, rfl, Nat.le_of_ble_eq_true rfl, Nat.le_of_ble_eq_true rfl⟩ rfl (Nat.le_of_ble_eq_true rfl) ⟨Nat.le_of_ble_eq_true rfl, Nat.le_of_ble_eq_true rfl⟩ ?_
    refine am_if_eq cx (tgt := 26) dX12_print_20 (by decide) (fun h => ?_) (fun h => ?_)
    · have hres := am_ifp h hres
      refine am_aload_n cx 0 dX12_print_26 rfl ?_
      refine am_iconst cx (v := (0 : Int32)) dX12_print_27 (by decide) ?_
      obtain ⟨q9, hres⟩ := am_ck_some hres
      refine am_putI cx dX12_print_28 fpX12_342 (fun h => by cases h) (am_ke q9) ?_
      refine am_iconst cx (v := (0 : Int32)) dX12_print_31 (by decide) ?_
      refine am_istore_n cx (lv' := [(0, .inr (.inr (.inl r0))), (1, .inl x1), (2, .inl (0 : Int32))]) dX12_print_32 (Nat.le_of_ble_eq_true rfl) rfl ?_
      exact sn12_print_b33 cx  N _ _ _ _ hres
    · have hres := am_ifn h hres
      refine am_bipush cx (v := (-2 : Int32)) dX12_print_23 (by decide) ?_
      obtain ⟨rfl, rfl⟩ := am_fin hres
      exact am_iret cx dX12_print_25
  · have hres := am_ifp h hres
    refine am_iconst cx (v := (-1 : Int32)) dX12_print_13 (by decide) ?_
    obtain ⟨rfl, rfl⟩ := am_fin hres
    exact am_iret cx dX12_print_14
set_option maxRecDepth 20000 in
theorem mt12_print {l : Launch} {v : Int32} {M M' : am_Mem} {N : Nat} {r0 : Nat} {x1 : Int32} (h : fn12_print N M r0 x1 = some (v, M')) : am_Met l yX12_print cX12_print 3 (some .int) rm12_print 0 0 [.inr (.inr (.inl r0)), .inl x1] M (some (.inl v)) M' := am_mk (by decide) (Nat.le_of_ble_eq_true rfl) (fun G cx => (sn12_print_b0 cx h))
-- SquareCutsModel.at
def fn12_at_b31  (a0 : Int32) (M : am_Mem) : Option (Int32 × am_Mem) :=
  some (a0, M)
def fn12_at_b0  (r0 : Nat) (x1 : Int32) (M : am_Mem) : Option (Int32 × am_Mem) :=
  am_ck (am_k M r0 12) (am_bd (fn12_within (am_wI M r0 0 (0 : Int32)) x1.toInt64 (0 : Int64) (((am_I (am_wI M r0 0 (0 : Int32)) r0 42) - (1 : Int32)).toInt64)) (fun v2 M3 => if v2 = 0 then fn12_at_b31  (-1 : Int32) M3 else am_ck (am_k M3 r0 12) (am_ck (am_k M3 (am_R M3 r0 41) 13) (am_ck (am_in x1 (am_L M3 (am_R M3 r0 41))) (fn12_at_b31  (am_I M3 (am_R M3 r0 41) x1.toNatClampNeg) M3)))))
def fn12_at (M : am_Mem) (r0 : Nat) (x1 : Int32) : Option (Int32 × am_Mem) := fn12_at_b0  r0 x1 M
def rm12_at : Room := { frames := 1, cells := 0, slots := 0, locals := 25 }
set_option maxRecDepth 20000 in
theorem sn12_at_b31 {l : Launch} {G : am_G} {v : Int32} {M' : am_Mem}  (cx : am_Ctx l rm12_at yX12_at cX12_at 2 (some .int) (some (.inl v)) M' 0 0 G)  {a0 : Int32} {M : am_Mem} (hres : fn12_at_b31  a0 M = some (v, M')) : G 31 [] [.inl a0] M 0 0 := by
  unfold fn12_at_b31 at hres
  obtain ⟨rfl, rfl⟩ := am_fin hres
  exact am_iret cx dX12_at_31
set_option maxRecDepth 20000 in
theorem sn12_at_b0 {l : Launch} {G : am_G} {v : Int32} {M' : am_Mem}  (cx : am_Ctx l rm12_at yX12_at cX12_at 2 (some .int) (some (.inl v)) M' 0 0 G)  {r0 : Nat} {x1 : Int32} {M : am_Mem} (hres : fn12_at_b0  r0 x1 M = some (v, M')) : G 0 [(0, .inr (.inr (.inl r0))), (1, .inl x1)] [] M 0 0 := by
  unfold fn12_at_b0 at hres
  refine am_aload_n cx 0 dX12_at_0 rfl ?_
  refine am_iconst cx (v := (0 : Int32)) dX12_at_1 (by decide) ?_
  obtain ⟨q1, hres⟩ := am_ck_some hres
  refine am_putI cx dX12_at_2 fpX12_103 (fun h => by cases h) (am_ke q1) ?_
  refine am_iload_n cx 1 dX12_at_5 rfl ?_
  refine am_i2l cx dX12_at_6 ?_
  refine am_lconst cx (v := (0 : Int64)) dX12_at_7 (by decide) ?_
  refine am_aload_n cx 0 dX12_at_8 rfl ?_
  refine am_getI cx dX12_at_9 flX12_342 (am_ke q1) ?_
  refine am_iconst cx (v := (1 : Int32)) dX12_at_12 (by decide) ?_
  refine am_isub cx dX12_at_13 ?_
  refine am_i2l cx dX12_at_14 ?_
  obtain ⟨v2, M3, q4, hres⟩ := am_bd_some hres
  refine am_callS1 cx [.inr (.inl x1.toInt64), .inr (.inl (0 : Int64)), .inr (.inl ((am_I (am_wI M r0 0 (0 : Int32)) r0 42) - (1 : Int32)).toInt64)] dX12_at_15 csX12_141 (mt12_within q4)  ⟨rfl, rfl, Nat.le_of_ble_eq_true rfl, Nat.le_of_ble_eq_true rfl⟩ rfl (Nat.le_of_ble_eq_true rfl) ⟨Nat.le_of_ble_eq_true rfl, Nat.le_of_ble_eq_true rfl⟩ ?_
  refine am_if_eq cx (tgt := 30) dX12_at_18 (by decide) (fun h => ?_) (fun h => ?_)
  · have hres := am_ifp h hres
    refine am_iconst cx (v := (-1 : Int32)) dX12_at_30 (by decide) ?_
    refine am_sub cx [] rfl ?_
    exact sn12_at_b31 cx  hres
  · have hres := am_ifn h hres
    refine am_aload_n cx 0 dX12_at_21 rfl ?_
    obtain ⟨q5, hres⟩ := am_ck_some hres
    refine am_getR cx dX12_at_22 flX12_85 (am_ke q5) ?_
    refine am_iload_n cx 1 dX12_at_25 rfl ?_
    obtain ⟨q6, hres⟩ := am_ck_some hres
    obtain ⟨q7, hres⟩ := am_ck_some hres
    refine am_bald cx dX12_at_26 (am_ke q6) q7 ?_
    refine am_goto cx (tgt := 31) dX12_at_27 (by decide) ?_
    refine am_sub cx [] rfl ?_
    exact sn12_at_b31 cx  hres
set_option maxRecDepth 20000 in
theorem mt12_at {l : Launch} {v : Int32} {M M' : am_Mem} {r0 : Nat} {x1 : Int32} (h : fn12_at M r0 x1 = some (v, M')) : am_Met l yX12_at cX12_at 2 (some .int) rm12_at 0 0 [.inr (.inr (.inl r0)), .inl x1] M (some (.inl v)) M' := am_mk (by decide) (Nat.le_of_ble_eq_true rfl) (fun G cx => (sn12_at_b0 cx h))
-- SquareCutsModel.groups
def fn12_groups_b57 (N : Nat) (k30 : Nat → Int32 → Int32 → Int32 → am_Mem → Option (Int32 × am_Mem)) (r0 : Nat) (x1 : Int32) (x2 : Int32) (x3 : Int32) (M : am_Mem) : Option (Int32 × am_Mem) :=
  k30 r0 x1 x2 (x3 + (1 : Int32)) M
def fn12_groups_b55 (N : Nat) (k30 : Nat → Int32 → Int32 → Int32 → am_Mem → Option (Int32 × am_Mem)) (a0 : Int32) (a1 : Int32) (r0 : Nat) (x1 : Int32) (x3 : Int32) (M : am_Mem) : Option (Int32 × am_Mem) :=
  fn12_groups_b57 N k30 r0 x1 (a0 + a1) x3 M
def fn12_groups_b30B (N : Nat) (k30 : Nat → Int32 → Int32 → Int32 → am_Mem → Option (Int32 × am_Mem)) (r0 : Nat) (x1 : Int32) (x2 : Int32) (x3 : Int32) (M : am_Mem) : Option (Int32 × am_Mem) :=
  am_ck (am_k M r0 12) (am_bd (fn12_of M r0 x1 (0 : Int32)) (fun v2 M3 => if v2 ≤ x3 then some (x2, M3) else am_ck (am_k M3 r0 12) (am_bd (fn12_isBeside M3 r0 x1 x3) (fun v6 M7 => if v6 = 0 then fn12_groups_b55 N k30 x2 (1 : Int32) r0 x1 x3 M7 else fn12_groups_b55 N k30 x2 (0 : Int32) r0 x1 x3 M7))))
def fn12_groups_b30 (N : Nat)  : Nat → Nat → Int32 → Int32 → Int32 → am_Mem → Option (Int32 × am_Mem)
  | 0 => fun _ _ _ _ _ => none
  | i + 1 => fn12_groups_b30B N (fn12_groups_b30 N  i)
def fn12_groups_b0 (N : Nat)  (r0 : Nat) (x1 : Int32) (M : am_Mem) : Option (Int32 × am_Mem) :=
  am_ck (am_k M r0 12) (am_bd (fn12_isRect (am_wI M r0 0 (0 : Int32)) r0 x1) (fun v2 M3 => if v2 = 0 then some ((-1 : Int32), M3) else am_ck (am_k M3 r0 12) (am_bd (fn12_doesFail M3 r0 x1) (fun v6 M7 => if v6 = 0 then fn12_groups_b30 N  N r0 x1 (0 : Int32) (0 : Int32) M7 else some ((-2 : Int32), M7)))))
def fn12_groups (N : Nat) (M : am_Mem) (r0 : Nat) (x1 : Int32) : Option (Int32 × am_Mem) := fn12_groups_b0 N r0 x1 M
def rm12_groups : Room := { frames := 2, cells := 0, slots := 0, locals := 46 }
set_option maxRecDepth 20000 in
theorem sn12_groups_b57 {l : Launch} {G : am_G} {v : Int32} {M' : am_Mem} {N : Nat} {k30 : Nat → Int32 → Int32 → Int32 → am_Mem → Option (Int32 × am_Mem)} (cx : am_Ctx l rm12_groups yX12_groups cX12_groups 4 (some .int) (some (.inl v)) M' 0 0 G) (hk30 : ∀ (r0 : Nat) (x1 : Int32) (x2 : Int32) (x3 : Int32) (M : am_Mem), k30 r0 x1 x2 x3 M = some (v, M') → G 30 [(0, .inr (.inr (.inl r0))), (1, .inl x1), (2, .inl x2), (3, .inl x3)] [] M 0 0) {r0 : Nat} {x1 : Int32} {x2 : Int32} {x3 : Int32} {M : am_Mem} (hres : fn12_groups_b57 N k30 r0 x1 x2 x3 M = some (v, M')) : G 57 [(0, .inr (.inr (.inl r0))), (1, .inl x1), (2, .inl x2), (3, .inl x3)] [] M 0 0 := by
  unfold fn12_groups_b57 at hres
  refine am_iincw cx (lv' := [(0, .inr (.inr (.inl r0))), (1, .inl x1), (2, .inl x2), (3, .inl (x3 + (1 : Int32)))]) (w := (1 : Int32)) 3 dX12_groups_57 (by decide) rfl (Nat.le_of_ble_eq_true rfl) rfl ?_
  refine am_goto cx (tgt := 30) dX12_groups_60 (by decide) ?_
  exact hk30 _ _ _ _ _ hres
set_option maxRecDepth 20000 in
theorem sn12_groups_b55 {l : Launch} {G : am_G} {v : Int32} {M' : am_Mem} {N : Nat} {k30 : Nat → Int32 → Int32 → Int32 → am_Mem → Option (Int32 × am_Mem)} (cx : am_Ctx l rm12_groups yX12_groups cX12_groups 4 (some .int) (some (.inl v)) M' 0 0 G) (hk30 : ∀ (r0 : Nat) (x1 : Int32) (x2 : Int32) (x3 : Int32) (M : am_Mem), k30 r0 x1 x2 x3 M = some (v, M') → G 30 [(0, .inr (.inr (.inl r0))), (1, .inl x1), (2, .inl x2), (3, .inl x3)] [] M 0 0) {a0 : Int32} {a1 : Int32} {r0 : Nat} {x1 : Int32} {x3 : Int32} {M : am_Mem} (hres : fn12_groups_b55 N k30 a0 a1 r0 x1 x3 M = some (v, M')) : G 55 [(0, .inr (.inr (.inl r0))), (1, .inl x1), (3, .inl x3)] [.inl a1, .inl a0] M 0 0 := by
  unfold fn12_groups_b55 at hres
  refine am_iadd cx dX12_groups_55 ?_
  refine am_istore_n cx (lv' := [(0, .inr (.inr (.inl r0))), (1, .inl x1), (2, .inl (a0 + a1)), (3, .inl x3)]) dX12_groups_56 (Nat.le_of_ble_eq_true rfl) rfl ?_
  exact sn12_groups_b57 cx hk30 hres
set_option maxRecDepth 20000 in
theorem sn12_groups_b30B {l : Launch} {G : am_G} {v : Int32} {M' : am_Mem} {N : Nat} {k30 : Nat → Int32 → Int32 → Int32 → am_Mem → Option (Int32 × am_Mem)} (cx : am_Ctx l rm12_groups yX12_groups cX12_groups 4 (some .int) (some (.inl v)) M' 0 0 G) (hk30 : ∀ (r0 : Nat) (x1 : Int32) (x2 : Int32) (x3 : Int32) (M : am_Mem), k30 r0 x1 x2 x3 M = some (v, M') → G 30 [(0, .inr (.inr (.inl r0))), (1, .inl x1), (2, .inl x2), (3, .inl x3)] [] M 0 0) {r0 : Nat} {x1 : Int32} {x2 : Int32} {x3 : Int32} {M : am_Mem} (hres : fn12_groups_b30B N k30 r0 x1 x2 x3 M = some (v, M')) : G 30 [(0, .inr (.inr (.inl r0))), (1, .inl x1), (2, .inl x2), (3, .inl x3)] [] M 0 0 := by
  unfold fn12_groups_b30B at hres
  refine am_iload_n cx 3 dX12_groups_30 rfl ?_
  refine am_aload_n cx 0 dX12_groups_31 rfl ?_
  refine am_iload_n cx 1 dX12_groups_32 rfl ?_
  refine am_iconst cx (v := (0 : Int32)) dX12_groups_33 (by decide) ?_
  obtain ⟨q1, hres⟩ := am_ck_some hres
  obtain ⟨v2, M3, q4, hres⟩ := am_bd_some hres
  refine am_callV1 cx [.inl x1, .inl (0 : Int32)] dX12_groups_34 cvX12_306 (mt12_of q4) (am_ke q1) ⟨rfl, rfl, Nat.le_of_ble_eq_true rfl, Nat.le_of_ble_eq_true rfl⟩ rfl (Nat.le_of_ble_eq_true rfl) ⟨Nat.le_of_ble_eq_true rfl, Nat.le_of_ble_eq_true rfl⟩ ?_
  refine am_icmp_ge cx (tgt := 63) dX12_groups_37 (by decide) (fun h => ?_) (fun h => ?_)
  · have hres := am_ifp h hres
    refine am_iload_n cx 2 dX12_groups_63 rfl ?_
    obtain ⟨rfl, rfl⟩ := am_fin hres
    exact am_iret cx dX12_groups_64
  · have hres := am_ifn h hres
    refine am_iload_n cx 2 dX12_groups_40 rfl ?_
    refine am_aload_n cx 0 dX12_groups_41 rfl ?_
    refine am_iload_n cx 1 dX12_groups_42 rfl ?_
    refine am_iload_n cx 3 dX12_groups_43 rfl ?_
    obtain ⟨q5, hres⟩ := am_ck_some hres
    obtain ⟨v6, M7, q8, hres⟩ := am_bd_some hres
    refine am_callV1 cx [.inl x1, .inl x3] dX12_groups_44 cvX12_348 (mt12_isBeside q8) (am_ke q5) ⟨rfl, rfl, Nat.le_of_ble_eq_true rfl, Nat.le_of_ble_eq_true rfl⟩ rfl (Nat.le_of_ble_eq_true rfl) ⟨Nat.le_of_ble_eq_true rfl, Nat.le_of_ble_eq_true rfl⟩ ?_
    refine am_if_eq cx (tgt := 54) dX12_groups_47 (by decide) (fun h => ?_) (fun h => ?_)
    · have hres := am_ifp h hres
      refine am_iconst cx (v := (1 : Int32)) dX12_groups_54 (by decide) ?_
      refine am_sub cx [0, 1, 3] rfl ?_
      exact sn12_groups_b55 cx hk30 hres
    · have hres := am_ifn h hres
      refine am_iconst cx (v := (0 : Int32)) dX12_groups_50 (by decide) ?_
      refine am_goto cx (tgt := 55) dX12_groups_51 (by decide) ?_
      refine am_sub cx [0, 1, 3] rfl ?_
      exact sn12_groups_b55 cx hk30 hres
set_option maxRecDepth 20000 in
theorem sn12_groups_b30 {l : Launch} {G : am_G} {v : Int32} {M' : am_Mem} {N : Nat}  (cx : am_Ctx l rm12_groups yX12_groups cX12_groups 4 (some .int) (some (.inl v)) M' 0 0 G)  (i : Nat) : ∀ (r0 : Nat) (x1 : Int32) (x2 : Int32) (x3 : Int32) (M : am_Mem), fn12_groups_b30 N  i r0 x1 x2 x3 M = some (v, M') → G 30 [(0, .inr (.inr (.inl r0))), (1, .inl x1), (2, .inl x2), (3, .inl x3)] [] M 0 0 := by
  induction i with
  | zero => intro r0 x1 x2 x3 M hres; exact am_no hres
  | succ i ih => intro r0 x1 x2 x3 M hres; exact sn12_groups_b30B cx ih hres
set_option maxRecDepth 20000 in
theorem sn12_groups_b0 {l : Launch} {G : am_G} {v : Int32} {M' : am_Mem} {N : Nat}  (cx : am_Ctx l rm12_groups yX12_groups cX12_groups 4 (some .int) (some (.inl v)) M' 0 0 G)  {r0 : Nat} {x1 : Int32} {M : am_Mem} (hres : fn12_groups_b0 N  r0 x1 M = some (v, M')) : G 0 [(0, .inr (.inr (.inl r0))), (1, .inl x1)] [] M 0 0 := by
  unfold fn12_groups_b0 at hres
  refine am_aload_n cx 0 dX12_groups_0 rfl ?_
  refine am_iconst cx (v := (0 : Int32)) dX12_groups_1 (by decide) ?_
  obtain ⟨q1, hres⟩ := am_ck_some hres
  refine am_putI cx dX12_groups_2 fpX12_103 (fun h => by cases h) (am_ke q1) ?_
  refine am_aload_n cx 0 dX12_groups_5 rfl ?_
  refine am_iload_n cx 1 dX12_groups_6 rfl ?_
  obtain ⟨v2, M3, q4, hres⟩ := am_bd_some hres
  refine am_callV1 cx [.inl x1] dX12_groups_7 cvX12_316 (mt12_isRect q4) (am_ke q1) ⟨rfl, rfl, Nat.le_of_ble_eq_true rfl, Nat.le_of_ble_eq_true rfl⟩ rfl (Nat.le_of_ble_eq_true rfl) ⟨Nat.le_of_ble_eq_true rfl, Nat.le_of_ble_eq_true rfl⟩ ?_
  refine am_if_ne cx (tgt := 15) dX12_groups_10 (by decide) (fun h => ?_) (fun h => ?_)
  · have hres := am_ifn h hres
    refine am_aload_n cx 0 dX12_groups_15 rfl ?_
    refine am_iload_n cx 1 dX12_groups_16 rfl ?_
    obtain ⟨q5, hres⟩ := am_ck_some hres
    obtain ⟨v6, M7, q8, hres⟩ := am_bd_some hres
    refine am_callV1 cx [.inl x1] dX12_groups_17 cvX12_325 (mt12_doesFail q8) (am_ke q5) ⟨rfl, rfl, Nat.le_of_ble_eq_true rfl, Nat.le_of_ble_eq_true rfl⟩ rfl (Nat.le_of_ble_eq_true rfl) ⟨Nat.le_of_ble_eq_true rfl, Nat.le_of_ble_eq_true rfl⟩ ?_
    refine am_if_eq cx (tgt := 26) dX12_groups_20 (by decide) (fun h => ?_) (fun h => ?_)
    · have hres := am_ifp h hres
      refine am_iconst cx (v := (0 : Int32)) dX12_groups_26 (by decide) ?_
      refine am_istore_n cx (lv' := [(0, .inr (.inr (.inl r0))), (1, .inl x1), (2, .inl (0 : Int32))]) dX12_groups_27 (Nat.le_of_ble_eq_true rfl) rfl ?_
      refine am_iconst cx (v := (0 : Int32)) dX12_groups_28 (by decide) ?_
      refine am_istore_n cx (lv' := [(0, .inr (.inr (.inl r0))), (1, .inl x1), (2, .inl (0 : Int32)), (3, .inl (0 : Int32))]) dX12_groups_29 (Nat.le_of_ble_eq_true rfl) rfl ?_
      exact sn12_groups_b30 cx  N _ _ _ _ _ hres
    · have hres := am_ifn h hres
      refine am_bipush cx (v := (-2 : Int32)) dX12_groups_23 (by decide) ?_
      obtain ⟨rfl, rfl⟩ := am_fin hres
      exact am_iret cx dX12_groups_25
  · have hres := am_ifp h hres
    refine am_iconst cx (v := (-1 : Int32)) dX12_groups_13 (by decide) ?_
    obtain ⟨rfl, rfl⟩ := am_fin hres
    exact am_iret cx dX12_groups_14
set_option maxRecDepth 20000 in
theorem mt12_groups {l : Launch} {v : Int32} {M M' : am_Mem} {N : Nat} {r0 : Nat} {x1 : Int32} (h : fn12_groups N M r0 x1 = some (v, M')) : am_Met l yX12_groups cX12_groups 4 (some .int) rm12_groups 0 0 [.inr (.inr (.inl r0)), .inl x1] M (some (.inl v)) M' := am_mk (by decide) (Nat.le_of_ble_eq_true rfl) (fun G cx => (sn12_groups_b0 cx h))
-- SquareCutsModel.isNet
def fn12_isNet_b22  (a0 : Int32) (M : am_Mem) : Option (Int32 × am_Mem) :=
  am_ck (a0 == 0 || a0 == 1) (some (a0, M))
def fn12_isNet_b21   (M : am_Mem) : Option (Int32 × am_Mem) :=
  fn12_isNet_b22  (0 : Int32) M
def fn12_isNet_b0  (r0 : Nat) (x1 : Int32) (M : am_Mem) : Option (Int32 × am_Mem) :=
  am_ck (am_k M r0 12) (am_bd (fn12_isRect M r0 x1) (fun v2 M3 => if v2 = 0 then fn12_isNet_b21   M3 else am_ck (am_k M3 r0 12) (am_bd (fn12_kindOf M3 r0 x1) (fun v6 M7 => if v6 = (1 : Int32) then fn12_isNet_b22  (1 : Int32) M7 else fn12_isNet_b21   M7))))
def fn12_isNet (M : am_Mem) (r0 : Nat) (x1 : Int32) : Option (Int32 × am_Mem) := fn12_isNet_b0  r0 x1 M
def rm12_isNet : Room := { frames := 2, cells := 0, slots := 0, locals := 46 }
set_option maxRecDepth 20000 in
theorem sn12_isNet_b22 {l : Launch} {G : am_G} {v : Int32} {M' : am_Mem}  (cx : am_Ctx l rm12_isNet yX12_isNet cX12_isNet 2 (some .boolean) (some (.inl v)) M' 0 0 G)  {a0 : Int32} {M : am_Mem} (hres : fn12_isNet_b22  a0 M = some (v, M')) : G 22 [] [.inl a0] M 0 0 := by
  unfold fn12_isNet_b22 at hres
  obtain ⟨q1, hres⟩ := am_ck_some hres
  obtain ⟨rfl, rfl⟩ := am_fin hres
  exact am_zret cx q1 dX12_isNet_22
set_option maxRecDepth 20000 in
theorem sn12_isNet_b21 {l : Launch} {G : am_G} {v : Int32} {M' : am_Mem}  (cx : am_Ctx l rm12_isNet yX12_isNet cX12_isNet 2 (some .boolean) (some (.inl v)) M' 0 0 G)   {M : am_Mem} (hres : fn12_isNet_b21   M = some (v, M')) : G 21 [] [] M 0 0 := by
  unfold fn12_isNet_b21 at hres
  refine am_iconst cx (v := (0 : Int32)) dX12_isNet_21 (by decide) ?_
  exact sn12_isNet_b22 cx  hres
set_option maxRecDepth 20000 in
theorem sn12_isNet_b0 {l : Launch} {G : am_G} {v : Int32} {M' : am_Mem}  (cx : am_Ctx l rm12_isNet yX12_isNet cX12_isNet 2 (some .boolean) (some (.inl v)) M' 0 0 G)  {r0 : Nat} {x1 : Int32} {M : am_Mem} (hres : fn12_isNet_b0  r0 x1 M = some (v, M')) : G 0 [(0, .inr (.inr (.inl r0))), (1, .inl x1)] [] M 0 0 := by
  unfold fn12_isNet_b0 at hres
  refine am_aload_n cx 0 dX12_isNet_0 rfl ?_
  refine am_iload_n cx 1 dX12_isNet_1 rfl ?_
  obtain ⟨q1, hres⟩ := am_ck_some hres
  obtain ⟨v2, M3, q4, hres⟩ := am_bd_some hres
  refine am_callV1 cx [.inl x1] dX12_isNet_2 cvX12_316 (mt12_isRect q4) (am_ke q1) ⟨rfl, rfl, Nat.le_of_ble_eq_true rfl, Nat.le_of_ble_eq_true rfl⟩ rfl (Nat.le_of_ble_eq_true rfl) ⟨Nat.le_of_ble_eq_true rfl, Nat.le_of_ble_eq_true rfl⟩ ?_
  refine am_if_eq cx (tgt := 21) dX12_isNet_5 (by decide) (fun h => ?_) (fun h => ?_)
  · have hres := am_ifp h hres
    refine am_sub cx [] rfl ?_
    exact sn12_isNet_b21 cx  hres
  · have hres := am_ifn h hres
    refine am_aload_n cx 0 dX12_isNet_8 rfl ?_
    refine am_iload_n cx 1 dX12_isNet_9 rfl ?_
    obtain ⟨q5, hres⟩ := am_ck_some hres
    obtain ⟨v6, M7, q8, hres⟩ := am_bd_some hres
    refine am_callV1 cx [.inl x1] dX12_isNet_10 cvX12_322 (mt12_kindOf q8) (am_ke q5) ⟨rfl, rfl, Nat.le_of_ble_eq_true rfl, Nat.le_of_ble_eq_true rfl⟩ rfl (Nat.le_of_ble_eq_true rfl) ⟨Nat.le_of_ble_eq_true rfl, Nat.le_of_ble_eq_true rfl⟩ ?_
    refine am_iconst cx (v := (1 : Int32)) dX12_isNet_13 (by decide) ?_
    refine am_icmp_ne cx (tgt := 21) dX12_isNet_14 (by decide) (fun h => ?_) (fun h => ?_)
    · have hres := am_ifn h hres
      refine am_sub cx [] rfl ?_
      exact sn12_isNet_b21 cx  hres
    · have hres := am_ifp h hres
      refine am_iconst cx (v := (1 : Int32)) dX12_isNet_17 (by decide) ?_
      refine am_goto cx (tgt := 22) dX12_isNet_18 (by decide) ?_
      refine am_sub cx [] rfl ?_
      exact sn12_isNet_b22 cx  hres
set_option maxRecDepth 20000 in
theorem mt12_isNet {l : Launch} {v : Int32} {M M' : am_Mem} {r0 : Nat} {x1 : Int32} (h : fn12_isNet M r0 x1 = some (v, M')) : am_Met l yX12_isNet cX12_isNet 2 (some .boolean) rm12_isNet 0 0 [.inr (.inr (.inl r0)), .inl x1] M (some (.inl v)) M' := am_mk (by decide) (Nat.le_of_ble_eq_true rfl) (fun G cx => (sn12_isNet_b0 cx h))
-- SquareCutsModel.trees
def fn12_trees_b39  (b0 : Int64) (M : am_Mem) : Option (Int64 × am_Mem) :=
  some (b0, M)
def fn12_trees_b0  (r0 : Nat) (x1 : Int32) (M : am_Mem) : Option (Int64 × am_Mem) :=
  am_ck (am_k M r0 12) (am_bd (fn12_isRect (am_wI M r0 0 (0 : Int32)) r0 x1) (fun v2 M3 => if v2 = 0 then fn12_trees_b39  (-1 : Int64) M3 else am_ck (am_k M3 r0 12) (am_bd (fn12_isNet M3 r0 x1) (fun v6 M7 => if v6 = 0 then fn12_trees_b39  (-2 : Int64) M7 else am_ck (am_k M7 r0 12) (am_ck (am_k M7 (am_R M7 r0 29) 15) (am_ck (am_in x1 (am_L M7 (am_R M7 r0 29))) (fn12_trees_b39  (am_J M7 (am_R M7 r0 29) x1.toNatClampNeg) M7)))))))
def fn12_trees (M : am_Mem) (r0 : Nat) (x1 : Int32) : Option (Int64 × am_Mem) := fn12_trees_b0  r0 x1 M
def rm12_trees : Room := { frames := 3, cells := 0, slots := 0, locals := 67 }
set_option maxRecDepth 20000 in
theorem sn12_trees_b39 {l : Launch} {G : am_G} {v : Int64} {M' : am_Mem}  (cx : am_Ctx l rm12_trees yX12_trees cX12_trees 2 (some .long) (some (.inr (.inl v))) M' 0 0 G)  {b0 : Int64} {M : am_Mem} (hres : fn12_trees_b39  b0 M = some (v, M')) : G 39 [] [.inr (.inl b0)] M 0 0 := by
  unfold fn12_trees_b39 at hres
  obtain ⟨rfl, rfl⟩ := am_fin hres
  exact am_lret cx dX12_trees_39
set_option maxRecDepth 20000 in
theorem sn12_trees_b0 {l : Launch} {G : am_G} {v : Int64} {M' : am_Mem}  (cx : am_Ctx l rm12_trees yX12_trees cX12_trees 2 (some .long) (some (.inr (.inl v))) M' 0 0 G)  {r0 : Nat} {x1 : Int32} {M : am_Mem} (hres : fn12_trees_b0  r0 x1 M = some (v, M')) : G 0 [(0, .inr (.inr (.inl r0))), (1, .inl x1)] [] M 0 0 := by
  unfold fn12_trees_b0 at hres
  refine am_aload_n cx 0 dX12_trees_0 rfl ?_
  refine am_iconst cx (v := (0 : Int32)) dX12_trees_1 (by decide) ?_
  obtain ⟨q1, hres⟩ := am_ck_some hres
  refine am_putI cx dX12_trees_2 fpX12_103 (fun h => by cases h) (am_ke q1) ?_
  refine am_aload_n cx 0 dX12_trees_5 rfl ?_
  refine am_iload_n cx 1 dX12_trees_6 rfl ?_
  obtain ⟨v2, M3, q4, hres⟩ := am_bd_some hres
  refine am_callV1 cx [.inl x1] dX12_trees_7 cvX12_316 (mt12_isRect q4) (am_ke q1) ⟨rfl, rfl, Nat.le_of_ble_eq_true rfl, Nat.le_of_ble_eq_true rfl⟩ rfl (Nat.le_of_ble_eq_true rfl) ⟨Nat.le_of_ble_eq_true rfl, Nat.le_of_ble_eq_true rfl⟩ ?_
  refine am_if_ne cx (tgt := 19) dX12_trees_10 (by decide) (fun h => ?_) (fun h => ?_)
  · have hres := am_ifn h hres
    refine am_aload_n cx 0 dX12_trees_19 rfl ?_
    refine am_iload_n cx 1 dX12_trees_20 rfl ?_
    obtain ⟨q5, hres⟩ := am_ck_some hres
    obtain ⟨v6, M7, q8, hres⟩ := am_bd_some hres
    refine am_callV1 cx [.inl x1] dX12_trees_21 cvX12_354 (mt12_isNet q8) (am_ke q5) ⟨rfl, rfl, Nat.le_of_ble_eq_true rfl, Nat.le_of_ble_eq_true rfl⟩ rfl (Nat.le_of_ble_eq_true rfl) ⟨Nat.le_of_ble_eq_true rfl, Nat.le_of_ble_eq_true rfl⟩ ?_
    refine am_if_eq cx (tgt := 36) dX12_trees_24 (by decide) (fun h => ?_) (fun h => ?_)
    · have hres := am_ifp h hres
      refine am_ldc2 cx dX12_trees_36 aw_6_163 ?_
      refine am_sub cx [] rfl ?_
      exact sn12_trees_b39 cx  hres
    · have hres := am_ifn h hres
      refine am_aload_n cx 0 dX12_trees_27 rfl ?_
      obtain ⟨q9, hres⟩ := am_ck_some hres
      refine am_getR cx dX12_trees_28 flX12_61 (am_ke q9) ?_
      refine am_iload_n cx 1 dX12_trees_31 rfl ?_
      obtain ⟨q10, hres⟩ := am_ck_some hres
      obtain ⟨q11, hres⟩ := am_ck_some hres
      refine am_lald cx dX12_trees_32 (am_ke q10) q11 ?_
      refine am_goto cx (tgt := 39) dX12_trees_33 (by decide) ?_
      refine am_sub cx [] rfl ?_
      exact sn12_trees_b39 cx  hres
  · have hres := am_ifp h hres
    refine am_ldc2 cx dX12_trees_13 aw_6_86 ?_
    refine am_goto cx (tgt := 39) dX12_trees_16 (by decide) ?_
    refine am_sub cx [] rfl ?_
    exact sn12_trees_b39 cx  hres
set_option maxRecDepth 20000 in
theorem mt12_trees {l : Launch} {v : Int64} {M M' : am_Mem} {r0 : Nat} {x1 : Int32} (h : fn12_trees M r0 x1 = some (v, M')) : am_Met l yX12_trees cX12_trees 2 (some .long) rm12_trees 0 0 [.inr (.inr (.inl r0)), .inl x1] M (some (.inr (.inl v))) M' := am_mk (by decide) (Nat.le_of_ble_eq_true rfl) (fun G cx => (sn12_trees_b0 cx h))
-- SquareCutsModel.current
def fn12_current_b60  (a0 : Int32) (M : am_Mem) : Option (Int32 × am_Mem) :=
  some (a0, M)
def fn12_current_b57   (M : am_Mem) : Option (Int32 × am_Mem) :=
  fn12_current_b60  (-2147483648 : Int32) M
def fn12_current_b0  (r0 : Nat) (x1 : Int32) (x2 : Int32) (M : am_Mem) : Option (Int32 × am_Mem) :=
  am_ck (am_k M r0 12) (am_bd (fn12_isNet (am_wI M r0 0 (0 : Int32)) r0 x1) (fun v2 M3 => if v2 = 0 then fn12_current_b57   M3 else am_ck (am_k M3 r0 12) (am_ck (am_k M3 (am_R M3 r0 29) 15) (am_ck (am_in x1 (am_L M3 (am_R M3 r0 29))) (if (lg_cmp (am_J M3 (am_R M3 r0 29) x1.toNatClampNeg) (0 : Int64)) ≤ 0 then fn12_current_b57   M3 else am_ck (am_k M3 (am_R M3 r0 25) 14) (am_ck (am_in x1 (am_L M3 (am_R M3 r0 25))) (am_bd (fn12_within M3 x2.toInt64 (0 : Int64) (((am_I M3 (am_R M3 r0 25) x1.toNatClampNeg) - (1 : Int32)).toInt64)) (fun v10 M11 => if v10 = 0 then fn12_current_b57   M11 else am_ck (am_k M11 r0 12) (am_ck (am_k M11 (am_R M11 r0 31) 15) (am_ck (am_in (((14 : Int32) * x1) + x2) (am_L M11 (am_R M11 r0 31))) (fn12_current_b60  ((am_J M11 (am_R M11 r0 31) (((14 : Int32) * x1) + x2).toNatClampNeg).toInt32) M11)))))))))))
def fn12_current (M : am_Mem) (r0 : Nat) (x1 : Int32) (x2 : Int32) : Option (Int32 × am_Mem) := fn12_current_b0  r0 x1 x2 M
def rm12_current : Room := { frames := 3, cells := 0, slots := 0, locals := 67 }
set_option maxRecDepth 20000 in
theorem sn12_current_b60 {l : Launch} {G : am_G} {v : Int32} {M' : am_Mem}  (cx : am_Ctx l rm12_current yX12_current cX12_current 3 (some .int) (some (.inl v)) M' 0 0 G)  {a0 : Int32} {M : am_Mem} (hres : fn12_current_b60  a0 M = some (v, M')) : G 60 [] [.inl a0] M 0 0 := by
  unfold fn12_current_b60 at hres
  obtain ⟨rfl, rfl⟩ := am_fin hres
  exact am_iret cx dX12_current_60
set_option maxRecDepth 20000 in
theorem sn12_current_b57 {l : Launch} {G : am_G} {v : Int32} {M' : am_Mem}  (cx : am_Ctx l rm12_current yX12_current cX12_current 3 (some .int) (some (.inl v)) M' 0 0 G)   {M : am_Mem} (hres : fn12_current_b57   M = some (v, M')) : G 57 [] [] M 0 0 := by
  unfold fn12_current_b57 at hres
  refine am_ldcw cx dX12_current_57 aw_6_204 ?_
  exact sn12_current_b60 cx  hres
set_option maxRecDepth 20000 in
theorem sn12_current_b0 {l : Launch} {G : am_G} {v : Int32} {M' : am_Mem}  (cx : am_Ctx l rm12_current yX12_current cX12_current 3 (some .int) (some (.inl v)) M' 0 0 G)  {r0 : Nat} {x1 : Int32} {x2 : Int32} {M : am_Mem} (hres : fn12_current_b0  r0 x1 x2 M = some (v, M')) : G 0 [(0, .inr (.inr (.inl r0))), (1, .inl x1), (2, .inl x2)] [] M 0 0 := by
  unfold fn12_current_b0 at hres
  refine am_aload_n cx 0 dX12_current_0 rfl ?_
  refine am_iconst cx (v := (0 : Int32)) dX12_current_1 (by decide) ?_
  obtain ⟨q1, hres⟩ := am_ck_some hres
  refine am_putI cx dX12_current_2 fpX12_103 (fun h => by cases h) (am_ke q1) ?_
  refine am_aload_n cx 0 dX12_current_5 rfl ?_
  refine am_iload_n cx 1 dX12_current_6 rfl ?_
  obtain ⟨v2, M3, q4, hres⟩ := am_bd_some hres
  refine am_callV1 cx [.inl x1] dX12_current_7 cvX12_354 (mt12_isNet q4) (am_ke q1) ⟨rfl, rfl, Nat.le_of_ble_eq_true rfl, Nat.le_of_ble_eq_true rfl⟩ rfl (Nat.le_of_ble_eq_true rfl) ⟨Nat.le_of_ble_eq_true rfl, Nat.le_of_ble_eq_true rfl⟩ ?_
  refine am_if_eq cx (tgt := 57) dX12_current_10 (by decide) (fun h => ?_) (fun h => ?_)
  · have hres := am_ifp h hres
    refine am_sub cx [] rfl ?_
    exact sn12_current_b57 cx  hres
  · have hres := am_ifn h hres
    refine am_aload_n cx 0 dX12_current_13 rfl ?_
    obtain ⟨q5, hres⟩ := am_ck_some hres
    refine am_getR cx dX12_current_14 flX12_61 (am_ke q5) ?_
    refine am_iload_n cx 1 dX12_current_17 rfl ?_
    obtain ⟨q6, hres⟩ := am_ck_some hres
    obtain ⟨q7, hres⟩ := am_ck_some hres
    refine am_lald cx dX12_current_18 (am_ke q6) q7 ?_
    refine am_lconst cx (v := (0 : Int64)) dX12_current_19 (by decide) ?_
    refine am_lcmp cx dX12_current_20 ?_
    refine am_if_le cx (tgt := 57) dX12_current_21 (by decide) (fun h => ?_) (fun h => ?_)
    · have hres := am_ifp h hres
      refine am_sub cx [] rfl ?_
      exact sn12_current_b57 cx  hres
    · have hres := am_ifn h hres
      refine am_iload_n cx 2 dX12_current_24 rfl ?_
      refine am_i2l cx dX12_current_25 ?_
      refine am_lconst cx (v := (0 : Int64)) dX12_current_26 (by decide) ?_
      refine am_aload_n cx 0 dX12_current_27 rfl ?_
      refine am_getR cx dX12_current_28 flX12_49 (am_ke q5) ?_
      refine am_iload_n cx 1 dX12_current_31 rfl ?_
      obtain ⟨q8, hres⟩ := am_ck_some hres
      obtain ⟨q9, hres⟩ := am_ck_some hres
      refine am_iald cx dX12_current_32 (am_ke q8) q9 ?_
      refine am_iconst cx (v := (1 : Int32)) dX12_current_33 (by decide) ?_
      refine am_isub cx dX12_current_34 ?_
      refine am_i2l cx dX12_current_35 ?_
      obtain ⟨v10, M11, q12, hres⟩ := am_bd_some hres
      refine am_callS1 cx [.inr (.inl x2.toInt64), .inr (.inl (0 : Int64)), .inr (.inl ((am_I M3 (am_R M3 r0 25) x1.toNatClampNeg) - (1 : Int32)).toInt64)] dX12_current_36 csX12_141 (mt12_within q12)  ⟨rfl, rfl, Nat.le_of_ble_eq_true rfl, Nat.le_of_ble_eq_true rfl⟩ rfl (Nat.le_of_ble_eq_true rfl) ⟨Nat.le_of_ble_eq_true rfl, Nat.le_of_ble_eq_true rfl⟩ ?_
      refine am_if_eq cx (tgt := 57) dX12_current_39 (by decide) (fun h => ?_) (fun h => ?_)
      · have hres := am_ifp h hres
        refine am_sub cx [] rfl ?_
        exact sn12_current_b57 cx  hres
      · have hres := am_ifn h hres
        refine am_aload_n cx 0 dX12_current_42 rfl ?_
        obtain ⟨q13, hres⟩ := am_ck_some hres
        refine am_getR cx dX12_current_43 flX12_67 (am_ke q13) ?_
        refine am_bipush cx (v := (14 : Int32)) dX12_current_46 (by decide) ?_
        refine am_iload_n cx 1 dX12_current_48 rfl ?_
        refine am_imul cx dX12_current_49 ?_
        refine am_iload_n cx 2 dX12_current_50 rfl ?_
        refine am_iadd cx dX12_current_51 ?_
        obtain ⟨q14, hres⟩ := am_ck_some hres
        obtain ⟨q15, hres⟩ := am_ck_some hres
        refine am_lald cx dX12_current_52 (am_ke q14) q15 ?_
        refine am_l2i cx dX12_current_53 ?_
        refine am_goto cx (tgt := 60) dX12_current_54 (by decide) ?_
        refine am_sub cx [] rfl ?_
        exact sn12_current_b60 cx  hres
set_option maxRecDepth 20000 in
theorem mt12_current {l : Launch} {v : Int32} {M M' : am_Mem} {r0 : Nat} {x1 : Int32} {x2 : Int32} (h : fn12_current M r0 x1 x2 = some (v, M')) : am_Met l yX12_current cX12_current 3 (some .int) rm12_current 0 0 [.inr (.inr (.inl r0)), .inl x1, .inl x2] M (some (.inl v)) M' := am_mk (by decide) (Nat.le_of_ble_eq_true rfl) (fun G cx => (sn12_current_b0 cx h))
