-- SquareCuts$Shelf.perfectOnes
def fn9_perfectOnes_b38 (N : Nat) (k4 : Nat → Int32 → Int32 → am_Mem → Option (Int32 × am_Mem)) (r0 : Nat) (x1 : Int32) (x2 : Int32) (M : am_Mem) : Option (Int32 × am_Mem) :=
  k4 r0 x1 (x2 + (1 : Int32)) M
def fn9_perfectOnes_b36 (N : Nat) (k4 : Nat → Int32 → Int32 → am_Mem → Option (Int32 × am_Mem)) (a0 : Int32) (a1 : Int32) (r0 : Nat) (x2 : Int32) (M : am_Mem) : Option (Int32 × am_Mem) :=
  fn9_perfectOnes_b38 N k4 r0 (a0 + a1) x2 M
def fn9_perfectOnes_b35 (N : Nat) (k4 : Nat → Int32 → Int32 → am_Mem → Option (Int32 × am_Mem)) (a0 : Int32) (r0 : Nat) (x2 : Int32) (M : am_Mem) : Option (Int32 × am_Mem) :=
  fn9_perfectOnes_b36 N k4 a0 (0 : Int32) r0 x2 M
def fn9_perfectOnes_b19 (N : Nat) (k4 : Nat → Int32 → Int32 → am_Mem → Option (Int32 × am_Mem)) (r0 : Nat) (x1 : Int32) (x2 : Int32) (r3 : Nat) (M : am_Mem) : Option (Int32 × am_Mem) :=
  if r3 = 0 then fn9_perfectOnes_b35 N k4 x1 r0 x2 M else am_ck (am_k M r3 10) (am_bd (fn10_isPerfect N M r3) (fun v2 M3 => if v2 = 0 then fn9_perfectOnes_b35 N k4 x1 r0 x2 M3 else fn9_perfectOnes_b36 N k4 x1 (1 : Int32) r0 x2 M3))
def fn9_perfectOnes_b4B (N : Nat) (k4 : Nat → Int32 → Int32 → am_Mem → Option (Int32 × am_Mem)) (r0 : Nat) (x1 : Int32) (x2 : Int32) (M : am_Mem) : Option (Int32 × am_Mem) :=
  am_ck (am_k M r0 9) (if (am_I M r0 1) ≤ x2 then some (x1, M) else am_ck (am_k M (am_R M r0 0) 18) (am_ck (am_in x2 (am_L M (am_R M r0 0))) (fn9_perfectOnes_b19 N k4 r0 x1 x2 (am_R M (am_R M r0 0) x2.toNatClampNeg) M)))
def fn9_perfectOnes_b4 (N : Nat)  : Nat → Nat → Int32 → Int32 → am_Mem → Option (Int32 × am_Mem)
  | 0 => fun _ _ _ _ => none
  | i + 1 => fn9_perfectOnes_b4B N (fn9_perfectOnes_b4 N  i)
def fn9_perfectOnes_b0 (N : Nat)  (r0 : Nat) (M : am_Mem) : Option (Int32 × am_Mem) :=
  fn9_perfectOnes_b4 N  N r0 (0 : Int32) (0 : Int32) M
def fn9_perfectOnes (N : Nat) (M : am_Mem) (r0 : Nat) : Option (Int32 × am_Mem) := fn9_perfectOnes_b0 N r0 M
def rm9_perfectOnes : Room := { frames := 1, cells := 0, slots := 0, locals := 22 }
set_option maxRecDepth 20000 in
theorem sn9_perfectOnes_b38 {l : Launch} {G : am_G} {v : Int32} {M' : am_Mem} {N : Nat} {k4 : Nat → Int32 → Int32 → am_Mem → Option (Int32 × am_Mem)} (cx : am_Ctx l rm9_perfectOnes yX9_perfectOnes cX9_perfectOnes 4 (some .int) (some (.inl v)) M' 0 0 G) (hk4 : ∀ (r0 : Nat) (x1 : Int32) (x2 : Int32) (M : am_Mem), k4 r0 x1 x2 M = some (v, M') → G 4 [(0, .inr (.inr r0)), (1, .inl x1), (2, .inl x2)] [] M 0 0) {r0 : Nat} {x1 : Int32} {x2 : Int32} {M : am_Mem} (hres : fn9_perfectOnes_b38 N k4 r0 x1 x2 M = some (v, M')) : G 38 [(0, .inr (.inr r0)), (1, .inl x1), (2, .inl x2)] [] M 0 0 := by
  unfold fn9_perfectOnes_b38 at hres
  refine am_iincw cx (lv' := [(0, .inr (.inr r0)), (1, .inl x1), (2, .inl (x2 + (1 : Int32)))]) (w := (1 : Int32)) 2 dX9_perfectOnes_38 (by decide) rfl (Nat.le_of_ble_eq_true rfl) rfl ?_
  refine am_goto cx (tgt := 4) dX9_perfectOnes_41 (by decide) ?_
  exact hk4 _ _ _ _ hres
set_option maxRecDepth 20000 in
theorem sn9_perfectOnes_b36 {l : Launch} {G : am_G} {v : Int32} {M' : am_Mem} {N : Nat} {k4 : Nat → Int32 → Int32 → am_Mem → Option (Int32 × am_Mem)} (cx : am_Ctx l rm9_perfectOnes yX9_perfectOnes cX9_perfectOnes 4 (some .int) (some (.inl v)) M' 0 0 G) (hk4 : ∀ (r0 : Nat) (x1 : Int32) (x2 : Int32) (M : am_Mem), k4 r0 x1 x2 M = some (v, M') → G 4 [(0, .inr (.inr r0)), (1, .inl x1), (2, .inl x2)] [] M 0 0) {a0 : Int32} {a1 : Int32} {r0 : Nat} {x2 : Int32} {M : am_Mem} (hres : fn9_perfectOnes_b36 N k4 a0 a1 r0 x2 M = some (v, M')) : G 36 [(0, .inr (.inr r0)), (2, .inl x2)] [.inl a1, .inl a0] M 0 0 := by
  unfold fn9_perfectOnes_b36 at hres
  refine am_iadd cx dX9_perfectOnes_36 ?_
  refine am_istore_n cx (lv' := [(0, .inr (.inr r0)), (1, .inl (a0 + a1)), (2, .inl x2)]) dX9_perfectOnes_37 (Nat.le_of_ble_eq_true rfl) rfl ?_
  exact sn9_perfectOnes_b38 cx hk4 hres
set_option maxRecDepth 20000 in
theorem sn9_perfectOnes_b35 {l : Launch} {G : am_G} {v : Int32} {M' : am_Mem} {N : Nat} {k4 : Nat → Int32 → Int32 → am_Mem → Option (Int32 × am_Mem)} (cx : am_Ctx l rm9_perfectOnes yX9_perfectOnes cX9_perfectOnes 4 (some .int) (some (.inl v)) M' 0 0 G) (hk4 : ∀ (r0 : Nat) (x1 : Int32) (x2 : Int32) (M : am_Mem), k4 r0 x1 x2 M = some (v, M') → G 4 [(0, .inr (.inr r0)), (1, .inl x1), (2, .inl x2)] [] M 0 0) {a0 : Int32} {r0 : Nat} {x2 : Int32} {M : am_Mem} (hres : fn9_perfectOnes_b35 N k4 a0 r0 x2 M = some (v, M')) : G 35 [(0, .inr (.inr r0)), (2, .inl x2)] [.inl a0] M 0 0 := by
  unfold fn9_perfectOnes_b35 at hres
  refine am_iconst cx (v := (0 : Int32)) dX9_perfectOnes_35 (by decide) ?_
  exact sn9_perfectOnes_b36 cx hk4 hres
set_option maxRecDepth 20000 in
theorem sn9_perfectOnes_b19 {l : Launch} {G : am_G} {v : Int32} {M' : am_Mem} {N : Nat} {k4 : Nat → Int32 → Int32 → am_Mem → Option (Int32 × am_Mem)} (cx : am_Ctx l rm9_perfectOnes yX9_perfectOnes cX9_perfectOnes 4 (some .int) (some (.inl v)) M' 0 0 G) (hk4 : ∀ (r0 : Nat) (x1 : Int32) (x2 : Int32) (M : am_Mem), k4 r0 x1 x2 M = some (v, M') → G 4 [(0, .inr (.inr r0)), (1, .inl x1), (2, .inl x2)] [] M 0 0) {r0 : Nat} {x1 : Int32} {x2 : Int32} {r3 : Nat} {M : am_Mem} (hres : fn9_perfectOnes_b19 N k4 r0 x1 x2 r3 M = some (v, M')) : G 19 [(0, .inr (.inr r0)), (1, .inl x1), (2, .inl x2), (3, .inr (.inr r3))] [] M 0 0 := by
  unfold fn9_perfectOnes_b19 at hres
  refine am_iload_n cx 1 dX9_perfectOnes_19 rfl ?_
  refine am_aload_n cx 3 dX9_perfectOnes_20 rfl ?_
  refine am_ifnull cx (tgt := 35) dX9_perfectOnes_21 (by decide) (fun h => ?_) (fun h => ?_)
  · have hres := am_ifp h hres
    refine am_sub cx [0, 2] rfl ?_
    exact sn9_perfectOnes_b35 cx hk4 hres
  · have hres := am_ifn h hres
    refine am_aload_n cx 3 dX9_perfectOnes_24 rfl ?_
    obtain ⟨q1, hres⟩ := am_ck_some hres
    obtain ⟨v2, M3, q4, hres⟩ := am_bd_some hres
    refine am_callV1 cx [] dX9_perfectOnes_25 cvX9_28 (mt10_isPerfect q4) (am_ke q1) ⟨rfl, rfl, Nat.le_of_ble_eq_true rfl, Nat.le_of_ble_eq_true rfl⟩ rfl (Nat.le_of_ble_eq_true rfl) ⟨Nat.le_of_ble_eq_true rfl, Nat.le_of_ble_eq_true rfl⟩ ?_
    refine am_if_eq cx (tgt := 35) dX9_perfectOnes_28 (by decide) (fun h => ?_) (fun h => ?_)
    · have hres := am_ifp h hres
      refine am_sub cx [0, 2] rfl ?_
      exact sn9_perfectOnes_b35 cx hk4 hres
    · have hres := am_ifn h hres
      refine am_iconst cx (v := (1 : Int32)) dX9_perfectOnes_31 (by decide) ?_
      refine am_goto cx (tgt := 36) dX9_perfectOnes_32 (by decide) ?_
      refine am_sub cx [0, 2] rfl ?_
      exact sn9_perfectOnes_b36 cx hk4 hres
set_option maxRecDepth 20000 in
theorem sn9_perfectOnes_b4B {l : Launch} {G : am_G} {v : Int32} {M' : am_Mem} {N : Nat} {k4 : Nat → Int32 → Int32 → am_Mem → Option (Int32 × am_Mem)} (cx : am_Ctx l rm9_perfectOnes yX9_perfectOnes cX9_perfectOnes 4 (some .int) (some (.inl v)) M' 0 0 G) (hk4 : ∀ (r0 : Nat) (x1 : Int32) (x2 : Int32) (M : am_Mem), k4 r0 x1 x2 M = some (v, M') → G 4 [(0, .inr (.inr r0)), (1, .inl x1), (2, .inl x2)] [] M 0 0) {r0 : Nat} {x1 : Int32} {x2 : Int32} {M : am_Mem} (hres : fn9_perfectOnes_b4B N k4 r0 x1 x2 M = some (v, M')) : G 4 [(0, .inr (.inr r0)), (1, .inl x1), (2, .inl x2)] [] M 0 0 := by
  unfold fn9_perfectOnes_b4B at hres
  refine am_iload_n cx 2 dX9_perfectOnes_4 rfl ?_
  refine am_aload_n cx 0 dX9_perfectOnes_5 rfl ?_
  obtain ⟨q1, hres⟩ := am_ck_some hres
  refine am_getI cx dX9_perfectOnes_6 flX9_17 (am_ke q1) ?_
  refine am_icmp_ge cx (tgt := 44) dX9_perfectOnes_9 (by decide) (fun h => ?_) (fun h => ?_)
  · have hres := am_ifp h hres
    refine am_iload_n cx 1 dX9_perfectOnes_44 rfl ?_
    obtain ⟨rfl, rfl⟩ := am_fin hres
    exact am_iret cx dX9_perfectOnes_45
  · have hres := am_ifn h hres
    refine am_aload_n cx 0 dX9_perfectOnes_12 rfl ?_
    refine am_getR cx dX9_perfectOnes_13 flX9_11 (am_ke q1) ?_
    refine am_iload_n cx 2 dX9_perfectOnes_16 rfl ?_
    obtain ⟨q2, hres⟩ := am_ck_some hres
    obtain ⟨q3, hres⟩ := am_ck_some hres
    refine am_aald18 cx dX9_perfectOnes_17 (am_ke q2) q3 ?_
    refine am_astore_n cx (lv' := [(0, .inr (.inr r0)), (1, .inl x1), (2, .inl x2), (3, .inr (.inr (am_R M (am_R M r0 0) x2.toNatClampNeg)))]) dX9_perfectOnes_18 (Nat.le_of_ble_eq_true rfl) rfl ?_
    exact sn9_perfectOnes_b19 cx hk4 hres
set_option maxRecDepth 20000 in
theorem sn9_perfectOnes_b4 {l : Launch} {G : am_G} {v : Int32} {M' : am_Mem} {N : Nat}  (cx : am_Ctx l rm9_perfectOnes yX9_perfectOnes cX9_perfectOnes 4 (some .int) (some (.inl v)) M' 0 0 G)  (i : Nat) : ∀ (r0 : Nat) (x1 : Int32) (x2 : Int32) (M : am_Mem), fn9_perfectOnes_b4 N  i r0 x1 x2 M = some (v, M') → G 4 [(0, .inr (.inr r0)), (1, .inl x1), (2, .inl x2)] [] M 0 0 := by
  induction i with
  | zero => intro r0 x1 x2 M hres; exact am_no hres
  | succ i ih => intro r0 x1 x2 M hres; exact sn9_perfectOnes_b4B cx ih hres
set_option maxRecDepth 20000 in
theorem sn9_perfectOnes_b0 {l : Launch} {G : am_G} {v : Int32} {M' : am_Mem} {N : Nat}  (cx : am_Ctx l rm9_perfectOnes yX9_perfectOnes cX9_perfectOnes 4 (some .int) (some (.inl v)) M' 0 0 G)  {r0 : Nat} {M : am_Mem} (hres : fn9_perfectOnes_b0 N  r0 M = some (v, M')) : G 0 [(0, .inr (.inr r0))] [] M 0 0 := by
  unfold fn9_perfectOnes_b0 at hres
  refine am_iconst cx (v := (0 : Int32)) dX9_perfectOnes_0 (by decide) ?_
  refine am_istore_n cx (lv' := [(0, .inr (.inr r0)), (1, .inl (0 : Int32))]) dX9_perfectOnes_1 (Nat.le_of_ble_eq_true rfl) rfl ?_
  refine am_iconst cx (v := (0 : Int32)) dX9_perfectOnes_2 (by decide) ?_
  refine am_istore_n cx (lv' := [(0, .inr (.inr r0)), (1, .inl (0 : Int32)), (2, .inl (0 : Int32))]) dX9_perfectOnes_3 (Nat.le_of_ble_eq_true rfl) rfl ?_
  exact sn9_perfectOnes_b4 cx  N _ _ _ _ hres
set_option maxRecDepth 20000 in
theorem mt9_perfectOnes {l : Launch} {v : Int32} {M M' : am_Mem} {N : Nat} {r0 : Nat} (h : fn9_perfectOnes N M r0 = some (v, M')) : am_Met l yX9_perfectOnes cX9_perfectOnes 4 (some .int) rm9_perfectOnes 0 0 [.inr (.inr r0)] M (some (.inl v)) M' := am_mk (by decide) (Nat.le_of_ble_eq_true rfl) (fun G cx => (sn9_perfectOnes_b0 cx h))
-- SquareCuts$Tiling.commonDivisor
def fn10_commonDivisor_b4B (N : Nat) (k4 : Nat → Int32 → Int32 → am_Mem → Option (Int32 × am_Mem)) (r0 : Nat) (x1 : Int32) (x2 : Int32) (M : am_Mem) : Option (Int32 × am_Mem) :=
  am_ck (am_k M r0 10) (if (am_I M r0 4) ≤ x2 then some (x1, M) else am_ck (am_k M (am_R M r0 9) 14) (am_ck (am_in x2 (am_L M (am_R M r0 9))) (am_bd (fn11_greatestDivisor N M x1 (am_I M (am_R M r0 9) x2.toNatClampNeg)) (fun v4 M5 => k4 r0 v4 (x2 + (1 : Int32)) M5))))
def fn10_commonDivisor_b4 (N : Nat)  : Nat → Nat → Int32 → Int32 → am_Mem → Option (Int32 × am_Mem)
  | 0 => fun _ _ _ _ => none
  | i + 1 => fn10_commonDivisor_b4B N (fn10_commonDivisor_b4 N  i)
def fn10_commonDivisor_b0 (N : Nat)  (r0 : Nat) (M : am_Mem) : Option (Int32 × am_Mem) :=
  fn10_commonDivisor_b4 N  N r0 (0 : Int32) (0 : Int32) M
def fn10_commonDivisor (N : Nat) (M : am_Mem) (r0 : Nat) : Option (Int32 × am_Mem) := fn10_commonDivisor_b0 N r0 M
def rm10_commonDivisor : Room := { frames := 2, cells := 0, slots := 0, locals := 46 }
set_option maxRecDepth 20000 in
theorem sn10_commonDivisor_b4B {l : Launch} {G : am_G} {v : Int32} {M' : am_Mem} {N : Nat} {k4 : Nat → Int32 → Int32 → am_Mem → Option (Int32 × am_Mem)} (cx : am_Ctx l rm10_commonDivisor yX10_commonDivisor cX10_commonDivisor 3 (some .int) (some (.inl v)) M' 0 0 G) (hk4 : ∀ (r0 : Nat) (x1 : Int32) (x2 : Int32) (M : am_Mem), k4 r0 x1 x2 M = some (v, M') → G 4 [(0, .inr (.inr r0)), (1, .inl x1), (2, .inl x2)] [] M 0 0) {r0 : Nat} {x1 : Int32} {x2 : Int32} {M : am_Mem} (hres : fn10_commonDivisor_b4B N k4 r0 x1 x2 M = some (v, M')) : G 4 [(0, .inr (.inr r0)), (1, .inl x1), (2, .inl x2)] [] M 0 0 := by
  unfold fn10_commonDivisor_b4B at hres
  refine am_iload_n cx 2 dX10_commonDivisor_4 rfl ?_
  refine am_aload_n cx 0 dX10_commonDivisor_5 rfl ?_
  obtain ⟨q1, hres⟩ := am_ck_some hres
  refine am_getI cx dX10_commonDivisor_6 flX10_32 (am_ke q1) ?_
  refine am_icmp_ge cx (tgt := 29) dX10_commonDivisor_9 (by decide) (fun h => ?_) (fun h => ?_)
  · have hres := am_ifp h hres
    refine am_iload_n cx 1 dX10_commonDivisor_29 rfl ?_
    obtain ⟨rfl, rfl⟩ := am_fin hres
    exact am_iret cx dX10_commonDivisor_30
  · have hres := am_ifn h hres
    refine am_iload_n cx 1 dX10_commonDivisor_12 rfl ?_
    refine am_aload_n cx 0 dX10_commonDivisor_13 rfl ?_
    refine am_getR cx dX10_commonDivisor_14 flX10_48 (am_ke q1) ?_
    refine am_iload_n cx 2 dX10_commonDivisor_17 rfl ?_
    obtain ⟨q2, hres⟩ := am_ck_some hres
    obtain ⟨q3, hres⟩ := am_ck_some hres
    refine am_iald cx dX10_commonDivisor_18 (am_ke q2) q3 ?_
    obtain ⟨v4, M5, q6, hres⟩ := am_bd_some hres
    refine am_callSN1 cx [.inl x1, .inl (am_I M (am_R M r0 9) x2.toNatClampNeg)] dX10_commonDivisor_19 csX10_54 (mt11_greatestDivisor q6)  ⟨rfl, rfl, Nat.le_of_ble_eq_true rfl, Nat.le_of_ble_eq_true rfl⟩ rfl (Nat.le_of_ble_eq_true rfl) ⟨Nat.le_of_ble_eq_true rfl, Nat.le_of_ble_eq_true rfl⟩ ?_
    refine am_istore_n cx (lv' := [(0, .inr (.inr r0)), (1, .inl v4), (2, .inl x2)]) dX10_commonDivisor_22 (Nat.le_of_ble_eq_true rfl) rfl ?_
    refine am_iincw cx (lv' := [(0, .inr (.inr r0)), (1, .inl v4), (2, .inl (x2 + (1 : Int32)))]) (w := (1 : Int32)) 2 dX10_commonDivisor_23 (by decide) rfl (Nat.le_of_ble_eq_true rfl) rfl ?_
    refine am_goto cx (tgt := 4) dX10_commonDivisor_26 (by decide) ?_
    exact hk4 _ _ _ _ hres
set_option maxRecDepth 20000 in
theorem sn10_commonDivisor_b4 {l : Launch} {G : am_G} {v : Int32} {M' : am_Mem} {N : Nat}  (cx : am_Ctx l rm10_commonDivisor yX10_commonDivisor cX10_commonDivisor 3 (some .int) (some (.inl v)) M' 0 0 G)  (i : Nat) : ∀ (r0 : Nat) (x1 : Int32) (x2 : Int32) (M : am_Mem), fn10_commonDivisor_b4 N  i r0 x1 x2 M = some (v, M') → G 4 [(0, .inr (.inr r0)), (1, .inl x1), (2, .inl x2)] [] M 0 0 := by
  induction i with
  | zero => intro r0 x1 x2 M hres; exact am_no hres
  | succ i ih => intro r0 x1 x2 M hres; exact sn10_commonDivisor_b4B cx ih hres
set_option maxRecDepth 20000 in
theorem sn10_commonDivisor_b0 {l : Launch} {G : am_G} {v : Int32} {M' : am_Mem} {N : Nat}  (cx : am_Ctx l rm10_commonDivisor yX10_commonDivisor cX10_commonDivisor 3 (some .int) (some (.inl v)) M' 0 0 G)  {r0 : Nat} {M : am_Mem} (hres : fn10_commonDivisor_b0 N  r0 M = some (v, M')) : G 0 [(0, .inr (.inr r0))] [] M 0 0 := by
  unfold fn10_commonDivisor_b0 at hres
  refine am_iconst cx (v := (0 : Int32)) dX10_commonDivisor_0 (by decide) ?_
  refine am_istore_n cx (lv' := [(0, .inr (.inr r0)), (1, .inl (0 : Int32))]) dX10_commonDivisor_1 (Nat.le_of_ble_eq_true rfl) rfl ?_
  refine am_iconst cx (v := (0 : Int32)) dX10_commonDivisor_2 (by decide) ?_
  refine am_istore_n cx (lv' := [(0, .inr (.inr r0)), (1, .inl (0 : Int32)), (2, .inl (0 : Int32))]) dX10_commonDivisor_3 (Nat.le_of_ble_eq_true rfl) rfl ?_
  exact sn10_commonDivisor_b4 cx  N _ _ _ _ hres
set_option maxRecDepth 20000 in
theorem mt10_commonDivisor {l : Launch} {v : Int32} {M M' : am_Mem} {N : Nat} {r0 : Nat} (h : fn10_commonDivisor N M r0 = some (v, M')) : am_Met l yX10_commonDivisor cX10_commonDivisor 3 (some .int) rm10_commonDivisor 0 0 [.inr (.inr r0)] M (some (.inl v)) M' := am_mk (by decide) (Nat.le_of_ble_eq_true rfl) (fun G cx => (sn10_commonDivisor_b0 cx h))
-- SquareCuts$Tiling.parts
def fn10_parts_b69 (N : Nat)  (r0 : Nat) (M : am_Mem) : Option (Int32 × am_Mem) :=
  am_ck (am_k M r0 10) (some ((am_I M r0 10), M))
def fn10_parts_b52 (N : Nat) (k12 : Nat → Int32 → Int32 → am_Mem → Option (Int32 × am_Mem)) (k22 : Nat → Int32 → Int32 → Int32 → am_Mem → Option (Int32 × am_Mem)) (r0 : Nat) (x1 : Int32) (x2 : Int32) (x3 : Int32) (M : am_Mem) : Option (Int32 × am_Mem) :=
  k22 r0 x1 x2 (x3 + (1 : Int32)) M
def fn10_parts_b50 (N : Nat) (k12 : Nat → Int32 → Int32 → am_Mem → Option (Int32 × am_Mem)) (k22 : Nat → Int32 → Int32 → Int32 → am_Mem → Option (Int32 × am_Mem)) (a0 : Int32) (a1 : Int32) (r0 : Nat) (x2 : Int32) (x3 : Int32) (M : am_Mem) : Option (Int32 × am_Mem) :=
  fn10_parts_b52 N k12 k22 r0 (a0 + a1) x2 x3 M
def fn10_parts_b49 (N : Nat) (k12 : Nat → Int32 → Int32 → am_Mem → Option (Int32 × am_Mem)) (k22 : Nat → Int32 → Int32 → Int32 → am_Mem → Option (Int32 × am_Mem)) (a0 : Int32) (r0 : Nat) (x2 : Int32) (x3 : Int32) (M : am_Mem) : Option (Int32 × am_Mem) :=
  fn10_parts_b50 N k12 k22 a0 (0 : Int32) r0 x2 x3 M
def fn10_parts_b22B (N : Nat) (k12 : Nat → Int32 → Int32 → am_Mem → Option (Int32 × am_Mem)) (k22 : Nat → Int32 → Int32 → Int32 → am_Mem → Option (Int32 × am_Mem)) (r0 : Nat) (x1 : Int32) (x2 : Int32) (x3 : Int32) (M : am_Mem) : Option (Int32 × am_Mem) :=
  am_ck (am_k M r0 10) (if (am_I M r0 4) ≤ x3 then k12 r0 x1 (x2 + (1 : Int32)) M else if x2 = x3 then fn10_parts_b49 N k12 k22 x1 r0 x2 x3 M else am_bd (fn10_isPart N M r0 x2 x3) (fun v2 M3 => if v2 = 0 then fn10_parts_b49 N k12 k22 x1 r0 x2 x3 M3 else fn10_parts_b50 N k12 k22 x1 (1 : Int32) r0 x2 x3 M3))
def fn10_parts_b22 (N : Nat) (k12 : Nat → Int32 → Int32 → am_Mem → Option (Int32 × am_Mem)) : Nat → Nat → Int32 → Int32 → Int32 → am_Mem → Option (Int32 × am_Mem)
  | 0 => fun _ _ _ _ _ => none
  | i + 1 => fn10_parts_b22B N k12 (fn10_parts_b22 N k12 i)
def fn10_parts_b12B (N : Nat) (k12 : Nat → Int32 → Int32 → am_Mem → Option (Int32 × am_Mem)) (r0 : Nat) (x1 : Int32) (x2 : Int32) (M : am_Mem) : Option (Int32 × am_Mem) :=
  am_ck (am_k M r0 10) (if (am_I M r0 4) ≤ x2 then fn10_parts_b69 N  r0 (am_wI M r0 10 x1) else fn10_parts_b22 N k12 N r0 x1 x2 (0 : Int32) M)
def fn10_parts_b12 (N : Nat)  : Nat → Nat → Int32 → Int32 → am_Mem → Option (Int32 × am_Mem)
  | 0 => fun _ _ _ _ => none
  | i + 1 => fn10_parts_b12B N (fn10_parts_b12 N  i)
def fn10_parts_b0 (N : Nat)  (r0 : Nat) (M : am_Mem) : Option (Int32 × am_Mem) :=
  am_ck (am_k M r0 10) (if (am_I M r0 10) = (-1 : Int32) then fn10_parts_b12 N  N r0 (0 : Int32) (0 : Int32) M else fn10_parts_b69 N  r0 M)
def fn10_parts (N : Nat) (M : am_Mem) (r0 : Nat) : Option (Int32 × am_Mem) := fn10_parts_b0 N r0 M
def rm10_parts : Room := { frames := 2, cells := 0, slots := 0, locals := 50 }
set_option maxRecDepth 20000 in
theorem sn10_parts_b69 {l : Launch} {G : am_G} {v : Int32} {M' : am_Mem} {N : Nat}  (cx : am_Ctx l rm10_parts yX10_parts cX10_parts 4 (some .int) (some (.inl v)) M' 0 0 G)  {r0 : Nat} {M : am_Mem} (hres : fn10_parts_b69 N  r0 M = some (v, M')) : G 69 [(0, .inr (.inr r0))] [] M 0 0 := by
  unfold fn10_parts_b69 at hres
  refine am_aload_n cx 0 dX10_parts_69 rfl ?_
  obtain ⟨q1, hres⟩ := am_ck_some hres
  refine am_getI cx dX10_parts_70 flX10_9 (am_ke q1) ?_
  obtain ⟨rfl, rfl⟩ := am_fin hres
  exact am_iret cx dX10_parts_73
set_option maxRecDepth 20000 in
theorem sn10_parts_b52 {l : Launch} {G : am_G} {v : Int32} {M' : am_Mem} {N : Nat} {k12 : Nat → Int32 → Int32 → am_Mem → Option (Int32 × am_Mem)} {k22 : Nat → Int32 → Int32 → Int32 → am_Mem → Option (Int32 × am_Mem)} (cx : am_Ctx l rm10_parts yX10_parts cX10_parts 4 (some .int) (some (.inl v)) M' 0 0 G) (hk12 : ∀ (r0 : Nat) (x1 : Int32) (x2 : Int32) (M : am_Mem), k12 r0 x1 x2 M = some (v, M') → G 12 [(0, .inr (.inr r0)), (1, .inl x1), (2, .inl x2)] [] M 0 0) (hk22 : ∀ (r0 : Nat) (x1 : Int32) (x2 : Int32) (x3 : Int32) (M : am_Mem), k22 r0 x1 x2 x3 M = some (v, M') → G 22 [(0, .inr (.inr r0)), (1, .inl x1), (2, .inl x2), (3, .inl x3)] [] M 0 0) {r0 : Nat} {x1 : Int32} {x2 : Int32} {x3 : Int32} {M : am_Mem} (hres : fn10_parts_b52 N k12 k22 r0 x1 x2 x3 M = some (v, M')) : G 52 [(0, .inr (.inr r0)), (1, .inl x1), (2, .inl x2), (3, .inl x3)] [] M 0 0 := by
  unfold fn10_parts_b52 at hres
  refine am_iincw cx (lv' := [(0, .inr (.inr r0)), (1, .inl x1), (2, .inl x2), (3, .inl (x3 + (1 : Int32)))]) (w := (1 : Int32)) 3 dX10_parts_52 (by decide) rfl (Nat.le_of_ble_eq_true rfl) rfl ?_
  refine am_goto cx (tgt := 22) dX10_parts_55 (by decide) ?_
  exact hk22 _ _ _ _ _ hres
set_option maxRecDepth 20000 in
theorem sn10_parts_b50 {l : Launch} {G : am_G} {v : Int32} {M' : am_Mem} {N : Nat} {k12 : Nat → Int32 → Int32 → am_Mem → Option (Int32 × am_Mem)} {k22 : Nat → Int32 → Int32 → Int32 → am_Mem → Option (Int32 × am_Mem)} (cx : am_Ctx l rm10_parts yX10_parts cX10_parts 4 (some .int) (some (.inl v)) M' 0 0 G) (hk12 : ∀ (r0 : Nat) (x1 : Int32) (x2 : Int32) (M : am_Mem), k12 r0 x1 x2 M = some (v, M') → G 12 [(0, .inr (.inr r0)), (1, .inl x1), (2, .inl x2)] [] M 0 0) (hk22 : ∀ (r0 : Nat) (x1 : Int32) (x2 : Int32) (x3 : Int32) (M : am_Mem), k22 r0 x1 x2 x3 M = some (v, M') → G 22 [(0, .inr (.inr r0)), (1, .inl x1), (2, .inl x2), (3, .inl x3)] [] M 0 0) {a0 : Int32} {a1 : Int32} {r0 : Nat} {x2 : Int32} {x3 : Int32} {M : am_Mem} (hres : fn10_parts_b50 N k12 k22 a0 a1 r0 x2 x3 M = some (v, M')) : G 50 [(0, .inr (.inr r0)), (2, .inl x2), (3, .inl x3)] [.inl a1, .inl a0] M 0 0 := by
  unfold fn10_parts_b50 at hres
  refine am_iadd cx dX10_parts_50 ?_
  refine am_istore_n cx (lv' := [(0, .inr (.inr r0)), (1, .inl (a0 + a1)), (2, .inl x2), (3, .inl x3)]) dX10_parts_51 (Nat.le_of_ble_eq_true rfl) rfl ?_
  exact sn10_parts_b52 cx hk12 hk22 hres
set_option maxRecDepth 20000 in
theorem sn10_parts_b49 {l : Launch} {G : am_G} {v : Int32} {M' : am_Mem} {N : Nat} {k12 : Nat → Int32 → Int32 → am_Mem → Option (Int32 × am_Mem)} {k22 : Nat → Int32 → Int32 → Int32 → am_Mem → Option (Int32 × am_Mem)} (cx : am_Ctx l rm10_parts yX10_parts cX10_parts 4 (some .int) (some (.inl v)) M' 0 0 G) (hk12 : ∀ (r0 : Nat) (x1 : Int32) (x2 : Int32) (M : am_Mem), k12 r0 x1 x2 M = some (v, M') → G 12 [(0, .inr (.inr r0)), (1, .inl x1), (2, .inl x2)] [] M 0 0) (hk22 : ∀ (r0 : Nat) (x1 : Int32) (x2 : Int32) (x3 : Int32) (M : am_Mem), k22 r0 x1 x2 x3 M = some (v, M') → G 22 [(0, .inr (.inr r0)), (1, .inl x1), (2, .inl x2), (3, .inl x3)] [] M 0 0) {a0 : Int32} {r0 : Nat} {x2 : Int32} {x3 : Int32} {M : am_Mem} (hres : fn10_parts_b49 N k12 k22 a0 r0 x2 x3 M = some (v, M')) : G 49 [(0, .inr (.inr r0)), (2, .inl x2), (3, .inl x3)] [.inl a0] M 0 0 := by
  unfold fn10_parts_b49 at hres
  refine am_iconst cx (v := (0 : Int32)) dX10_parts_49 (by decide) ?_
  exact sn10_parts_b50 cx hk12 hk22 hres
set_option maxRecDepth 20000 in
theorem sn10_parts_b22B {l : Launch} {G : am_G} {v : Int32} {M' : am_Mem} {N : Nat} {k12 : Nat → Int32 → Int32 → am_Mem → Option (Int32 × am_Mem)} {k22 : Nat → Int32 → Int32 → Int32 → am_Mem → Option (Int32 × am_Mem)} (cx : am_Ctx l rm10_parts yX10_parts cX10_parts 4 (some .int) (some (.inl v)) M' 0 0 G) (hk12 : ∀ (r0 : Nat) (x1 : Int32) (x2 : Int32) (M : am_Mem), k12 r0 x1 x2 M = some (v, M') → G 12 [(0, .inr (.inr r0)), (1, .inl x1), (2, .inl x2)] [] M 0 0) (hk22 : ∀ (r0 : Nat) (x1 : Int32) (x2 : Int32) (x3 : Int32) (M : am_Mem), k22 r0 x1 x2 x3 M = some (v, M') → G 22 [(0, .inr (.inr r0)), (1, .inl x1), (2, .inl x2), (3, .inl x3)] [] M 0 0) {r0 : Nat} {x1 : Int32} {x2 : Int32} {x3 : Int32} {M : am_Mem} (hres : fn10_parts_b22B N k12 k22 r0 x1 x2 x3 M = some (v, M')) : G 22 [(0, .inr (.inr r0)), (1, .inl x1), (2, .inl x2), (3, .inl x3)] [] M 0 0 := by
  unfold fn10_parts_b22B at hres
  refine am_iload_n cx 3 dX10_parts_22 rfl ?_
  refine am_aload_n cx 0 dX10_parts_23 rfl ?_
  obtain ⟨q1, hres⟩ := am_ck_some hres
  refine am_getI cx dX10_parts_24 flX10_32 (am_ke q1) ?_
  refine am_icmp_ge cx (tgt := 58) dX10_parts_27 (by decide) (fun h => ?_) (fun h => ?_)
  · have hres := am_ifp h hres
    refine am_iincw cx (lv' := [(0, .inr (.inr r0)), (1, .inl x1), (2, .inl (x2 + (1 : Int32))), (3, .inl x3)]) (w := (1 : Int32)) 2 dX10_parts_58 (by decide) rfl (Nat.le_of_ble_eq_true rfl) rfl ?_
    refine am_goto cx (tgt := 12) dX10_parts_61 (by decide) ?_
    refine am_sub cx [0, 1, 2] rfl ?_
    exact hk12 _ _ _ _ hres
  · have hres := am_ifn h hres
    refine am_iload_n cx 1 dX10_parts_30 rfl ?_
    refine am_iload_n cx 2 dX10_parts_31 rfl ?_
    refine am_iload_n cx 3 dX10_parts_32 rfl ?_
    refine am_icmp_eq cx (tgt := 49) dX10_parts_33 (by decide) (fun h => ?_) (fun h => ?_)
    · have hres := am_ifp h hres
      refine am_sub cx [0, 2, 3] rfl ?_
      exact sn10_parts_b49 cx hk12 hk22 hres
    · have hres := am_ifn h hres
      refine am_aload_n cx 0 dX10_parts_36 rfl ?_
      refine am_iload_n cx 2 dX10_parts_37 rfl ?_
      refine am_iload_n cx 3 dX10_parts_38 rfl ?_
      obtain ⟨v2, M3, q4, hres⟩ := am_bd_some hres
      refine am_callV1 cx [.inl x2, .inl x3] dX10_parts_39 cvX10_68 (mt10_isPart q4) (am_ke q1) ⟨rfl, rfl, Nat.le_of_ble_eq_true rfl, Nat.le_of_ble_eq_true rfl⟩ rfl (Nat.le_of_ble_eq_true rfl) ⟨Nat.le_of_ble_eq_true rfl, Nat.le_of_ble_eq_true rfl⟩ ?_
      refine am_if_eq cx (tgt := 49) dX10_parts_42 (by decide) (fun h => ?_) (fun h => ?_)
      · have hres := am_ifp h hres
        refine am_sub cx [0, 2, 3] rfl ?_
        exact sn10_parts_b49 cx hk12 hk22 hres
      · have hres := am_ifn h hres
        refine am_iconst cx (v := (1 : Int32)) dX10_parts_45 (by decide) ?_
        refine am_goto cx (tgt := 50) dX10_parts_46 (by decide) ?_
        refine am_sub cx [0, 2, 3] rfl ?_
        exact sn10_parts_b50 cx hk12 hk22 hres
set_option maxRecDepth 20000 in
theorem sn10_parts_b22 {l : Launch} {G : am_G} {v : Int32} {M' : am_Mem} {N : Nat} {k12 : Nat → Int32 → Int32 → am_Mem → Option (Int32 × am_Mem)} (cx : am_Ctx l rm10_parts yX10_parts cX10_parts 4 (some .int) (some (.inl v)) M' 0 0 G) (hk12 : ∀ (r0 : Nat) (x1 : Int32) (x2 : Int32) (M : am_Mem), k12 r0 x1 x2 M = some (v, M') → G 12 [(0, .inr (.inr r0)), (1, .inl x1), (2, .inl x2)] [] M 0 0) (i : Nat) : ∀ (r0 : Nat) (x1 : Int32) (x2 : Int32) (x3 : Int32) (M : am_Mem), fn10_parts_b22 N k12 i r0 x1 x2 x3 M = some (v, M') → G 22 [(0, .inr (.inr r0)), (1, .inl x1), (2, .inl x2), (3, .inl x3)] [] M 0 0 := by
  induction i with
  | zero => intro r0 x1 x2 x3 M hres; exact am_no hres
  | succ i ih => intro r0 x1 x2 x3 M hres; exact sn10_parts_b22B cx hk12 ih hres
set_option maxRecDepth 20000 in
theorem sn10_parts_b12B {l : Launch} {G : am_G} {v : Int32} {M' : am_Mem} {N : Nat} {k12 : Nat → Int32 → Int32 → am_Mem → Option (Int32 × am_Mem)} (cx : am_Ctx l rm10_parts yX10_parts cX10_parts 4 (some .int) (some (.inl v)) M' 0 0 G) (hk12 : ∀ (r0 : Nat) (x1 : Int32) (x2 : Int32) (M : am_Mem), k12 r0 x1 x2 M = some (v, M') → G 12 [(0, .inr (.inr r0)), (1, .inl x1), (2, .inl x2)] [] M 0 0) {r0 : Nat} {x1 : Int32} {x2 : Int32} {M : am_Mem} (hres : fn10_parts_b12B N k12 r0 x1 x2 M = some (v, M')) : G 12 [(0, .inr (.inr r0)), (1, .inl x1), (2, .inl x2)] [] M 0 0 := by
  unfold fn10_parts_b12B at hres
  refine am_iload_n cx 2 dX10_parts_12 rfl ?_
  refine am_aload_n cx 0 dX10_parts_13 rfl ?_
  obtain ⟨q1, hres⟩ := am_ck_some hres
  refine am_getI cx dX10_parts_14 flX10_32 (am_ke q1) ?_
  refine am_icmp_ge cx (tgt := 64) dX10_parts_17 (by decide) (fun h => ?_) (fun h => ?_)
  · have hres := am_ifp h hres
    refine am_aload_n cx 0 dX10_parts_64 rfl ?_
    refine am_iload_n cx 1 dX10_parts_65 rfl ?_
    refine am_putI cx dX10_parts_66 fpX10_9 (fun h => by cases h) (am_ke q1) ?_
    refine am_sub cx [0] rfl ?_
    exact sn10_parts_b69 cx  hres
  · have hres := am_ifn h hres
    refine am_iconst cx (v := (0 : Int32)) dX10_parts_20 (by decide) ?_
    refine am_istore_n cx (lv' := [(0, .inr (.inr r0)), (1, .inl x1), (2, .inl x2), (3, .inl (0 : Int32))]) dX10_parts_21 (Nat.le_of_ble_eq_true rfl) rfl ?_
    exact sn10_parts_b22 cx hk12 N _ _ _ _ _ hres
set_option maxRecDepth 20000 in
theorem sn10_parts_b12 {l : Launch} {G : am_G} {v : Int32} {M' : am_Mem} {N : Nat}  (cx : am_Ctx l rm10_parts yX10_parts cX10_parts 4 (some .int) (some (.inl v)) M' 0 0 G)  (i : Nat) : ∀ (r0 : Nat) (x1 : Int32) (x2 : Int32) (M : am_Mem), fn10_parts_b12 N  i r0 x1 x2 M = some (v, M') → G 12 [(0, .inr (.inr r0)), (1, .inl x1), (2, .inl x2)] [] M 0 0 := by
  induction i with
  | zero => intro r0 x1 x2 M hres; exact am_no hres
  | succ i ih => intro r0 x1 x2 M hres; exact sn10_parts_b12B cx ih hres
set_option maxRecDepth 20000 in
theorem sn10_parts_b0 {l : Launch} {G : am_G} {v : Int32} {M' : am_Mem} {N : Nat}  (cx : am_Ctx l rm10_parts yX10_parts cX10_parts 4 (some .int) (some (.inl v)) M' 0 0 G)  {r0 : Nat} {M : am_Mem} (hres : fn10_parts_b0 N  r0 M = some (v, M')) : G 0 [(0, .inr (.inr r0))] [] M 0 0 := by
  unfold fn10_parts_b0 at hres
  refine am_aload_n cx 0 dX10_parts_0 rfl ?_
  obtain ⟨q1, hres⟩ := am_ck_some hres
  refine am_getI cx dX10_parts_1 flX10_9 (am_ke q1) ?_
  refine am_iconst cx (v := (-1 : Int32)) dX10_parts_4 (by decide) ?_
  refine am_icmp_ne cx (tgt := 69) dX10_parts_5 (by decide) (fun h => ?_) (fun h => ?_)
  · have hres := am_ifn h hres
    exact sn10_parts_b69 cx  hres
  · have hres := am_ifp h hres
    refine am_iconst cx (v := (0 : Int32)) dX10_parts_8 (by decide) ?_
    refine am_istore_n cx (lv' := [(0, .inr (.inr r0)), (1, .inl (0 : Int32))]) dX10_parts_9 (Nat.le_of_ble_eq_true rfl) rfl ?_
    refine am_iconst cx (v := (0 : Int32)) dX10_parts_10 (by decide) ?_
    refine am_istore_n cx (lv' := [(0, .inr (.inr r0)), (1, .inl (0 : Int32)), (2, .inl (0 : Int32))]) dX10_parts_11 (Nat.le_of_ble_eq_true rfl) rfl ?_
    exact sn10_parts_b12 cx  N _ _ _ _ hres
set_option maxRecDepth 20000 in
theorem mt10_parts {l : Launch} {v : Int32} {M M' : am_Mem} {N : Nat} {r0 : Nat} (h : fn10_parts N M r0 = some (v, M')) : am_Met l yX10_parts cX10_parts 4 (some .int) rm10_parts 0 0 [.inr (.inr r0)] M (some (.inl v)) M' := am_mk (by decide) (Nat.le_of_ble_eq_true rfl) (fun G cx => (sn10_parts_b0 cx h))
-- SquareCuts$Tiling.crosses
def fn10_crosses_b40 (N : Nat) (k4 : Nat → Int32 → Int32 → am_Mem → Option (Int32 × am_Mem)) (r0 : Nat) (x1 : Int32) (x2 : Int32) (M : am_Mem) : Option (Int32 × am_Mem) :=
  k4 r0 x1 (x2 + (1 : Int32)) M
def fn10_crosses_b38 (N : Nat) (k4 : Nat → Int32 → Int32 → am_Mem → Option (Int32 × am_Mem)) (a0 : Int32) (a1 : Int32) (r0 : Nat) (x2 : Int32) (M : am_Mem) : Option (Int32 × am_Mem) :=
  fn10_crosses_b40 N k4 r0 (a0 + a1) x2 M
def fn10_crosses_b4B (N : Nat) (k4 : Nat → Int32 → Int32 → am_Mem → Option (Int32 × am_Mem)) (r0 : Nat) (x1 : Int32) (x2 : Int32) (M : am_Mem) : Option (Int32 × am_Mem) :=
  am_ck (am_k M r0 10) (if (am_I M r0 4) ≤ x2 then some (x1, M) else am_ck (am_k M (am_R M r0 7) 14) (am_ck (am_in x2 (am_L M (am_R M r0 7))) (am_ck (am_k M (am_R M r0 8) 14) (am_ck (am_in x2 (am_L M (am_R M r0 8))) (am_bd (fn10_cornersAt N M r0 (am_I M (am_R M r0 7) x2.toNatClampNeg) (am_I M (am_R M r0 8) x2.toNatClampNeg)) (fun v6 M7 => if v6 = (4 : Int32) then fn10_crosses_b38 N k4 x1 (1 : Int32) r0 x2 M7 else fn10_crosses_b38 N k4 x1 (0 : Int32) r0 x2 M7))))))
def fn10_crosses_b4 (N : Nat)  : Nat → Nat → Int32 → Int32 → am_Mem → Option (Int32 × am_Mem)
  | 0 => fun _ _ _ _ => none
  | i + 1 => fn10_crosses_b4B N (fn10_crosses_b4 N  i)
def fn10_crosses_b0 (N : Nat)  (r0 : Nat) (M : am_Mem) : Option (Int32 × am_Mem) :=
  fn10_crosses_b4 N  N r0 (0 : Int32) (0 : Int32) M
def fn10_crosses (N : Nat) (M : am_Mem) (r0 : Nat) : Option (Int32 × am_Mem) := fn10_crosses_b0 N r0 M
def rm10_crosses : Room := { frames := 2, cells := 0, slots := 0, locals := 47 }
set_option maxRecDepth 20000 in
theorem sn10_crosses_b40 {l : Launch} {G : am_G} {v : Int32} {M' : am_Mem} {N : Nat} {k4 : Nat → Int32 → Int32 → am_Mem → Option (Int32 × am_Mem)} (cx : am_Ctx l rm10_crosses yX10_crosses cX10_crosses 3 (some .int) (some (.inl v)) M' 0 0 G) (hk4 : ∀ (r0 : Nat) (x1 : Int32) (x2 : Int32) (M : am_Mem), k4 r0 x1 x2 M = some (v, M') → G 4 [(0, .inr (.inr r0)), (1, .inl x1), (2, .inl x2)] [] M 0 0) {r0 : Nat} {x1 : Int32} {x2 : Int32} {M : am_Mem} (hres : fn10_crosses_b40 N k4 r0 x1 x2 M = some (v, M')) : G 40 [(0, .inr (.inr r0)), (1, .inl x1), (2, .inl x2)] [] M 0 0 := by
  unfold fn10_crosses_b40 at hres
  refine am_iincw cx (lv' := [(0, .inr (.inr r0)), (1, .inl x1), (2, .inl (x2 + (1 : Int32)))]) (w := (1 : Int32)) 2 dX10_crosses_40 (by decide) rfl (Nat.le_of_ble_eq_true rfl) rfl ?_
  refine am_goto cx (tgt := 4) dX10_crosses_43 (by decide) ?_
  exact hk4 _ _ _ _ hres
set_option maxRecDepth 20000 in
theorem sn10_crosses_b38 {l : Launch} {G : am_G} {v : Int32} {M' : am_Mem} {N : Nat} {k4 : Nat → Int32 → Int32 → am_Mem → Option (Int32 × am_Mem)} (cx : am_Ctx l rm10_crosses yX10_crosses cX10_crosses 3 (some .int) (some (.inl v)) M' 0 0 G) (hk4 : ∀ (r0 : Nat) (x1 : Int32) (x2 : Int32) (M : am_Mem), k4 r0 x1 x2 M = some (v, M') → G 4 [(0, .inr (.inr r0)), (1, .inl x1), (2, .inl x2)] [] M 0 0) {a0 : Int32} {a1 : Int32} {r0 : Nat} {x2 : Int32} {M : am_Mem} (hres : fn10_crosses_b38 N k4 a0 a1 r0 x2 M = some (v, M')) : G 38 [(0, .inr (.inr r0)), (2, .inl x2)] [.inl a1, .inl a0] M 0 0 := by
  unfold fn10_crosses_b38 at hres
  refine am_iadd cx dX10_crosses_38 ?_
  refine am_istore_n cx (lv' := [(0, .inr (.inr r0)), (1, .inl (a0 + a1)), (2, .inl x2)]) dX10_crosses_39 (Nat.le_of_ble_eq_true rfl) rfl ?_
  exact sn10_crosses_b40 cx hk4 hres
set_option maxRecDepth 20000 in
theorem sn10_crosses_b4B {l : Launch} {G : am_G} {v : Int32} {M' : am_Mem} {N : Nat} {k4 : Nat → Int32 → Int32 → am_Mem → Option (Int32 × am_Mem)} (cx : am_Ctx l rm10_crosses yX10_crosses cX10_crosses 3 (some .int) (some (.inl v)) M' 0 0 G) (hk4 : ∀ (r0 : Nat) (x1 : Int32) (x2 : Int32) (M : am_Mem), k4 r0 x1 x2 M = some (v, M') → G 4 [(0, .inr (.inr r0)), (1, .inl x1), (2, .inl x2)] [] M 0 0) {r0 : Nat} {x1 : Int32} {x2 : Int32} {M : am_Mem} (hres : fn10_crosses_b4B N k4 r0 x1 x2 M = some (v, M')) : G 4 [(0, .inr (.inr r0)), (1, .inl x1), (2, .inl x2)] [] M 0 0 := by
  unfold fn10_crosses_b4B at hres
  refine am_iload_n cx 2 dX10_crosses_4 rfl ?_
  refine am_aload_n cx 0 dX10_crosses_5 rfl ?_
  obtain ⟨q1, hres⟩ := am_ck_some hres
  refine am_getI cx dX10_crosses_6 flX10_32 (am_ke q1) ?_
  refine am_icmp_ge cx (tgt := 46) dX10_crosses_9 (by decide) (fun h => ?_) (fun h => ?_)
  · have hres := am_ifp h hres
    refine am_iload_n cx 1 dX10_crosses_46 rfl ?_
    obtain ⟨rfl, rfl⟩ := am_fin hres
    exact am_iret cx dX10_crosses_47
  · have hres := am_ifn h hres
    refine am_iload_n cx 1 dX10_crosses_12 rfl ?_
    refine am_aload_n cx 0 dX10_crosses_13 rfl ?_
    refine am_aload_n cx 0 dX10_crosses_14 rfl ?_
    refine am_getR cx dX10_crosses_15 flX10_41 (am_ke q1) ?_
    refine am_iload_n cx 2 dX10_crosses_18 rfl ?_
    obtain ⟨q2, hres⟩ := am_ck_some hres
    obtain ⟨q3, hres⟩ := am_ck_some hres
    refine am_iald cx dX10_crosses_19 (am_ke q2) q3 ?_
    refine am_aload_n cx 0 dX10_crosses_20 rfl ?_
    refine am_getR cx dX10_crosses_21 flX10_45 (am_ke q1) ?_
    refine am_iload_n cx 2 dX10_crosses_24 rfl ?_
    obtain ⟨q4, hres⟩ := am_ck_some hres
    obtain ⟨q5, hres⟩ := am_ck_some hres
    refine am_iald cx dX10_crosses_25 (am_ke q4) q5 ?_
    obtain ⟨v6, M7, q8, hres⟩ := am_bd_some hres
    refine am_callV1 cx [.inl (am_I M (am_R M r0 7) x2.toNatClampNeg), .inl (am_I M (am_R M r0 8) x2.toNatClampNeg)] dX10_crosses_26 cvX10_75 (mt10_cornersAt q8) (am_ke q1) ⟨rfl, rfl, Nat.le_of_ble_eq_true rfl, Nat.le_of_ble_eq_true rfl⟩ rfl (Nat.le_of_ble_eq_true rfl) ⟨Nat.le_of_ble_eq_true rfl, Nat.le_of_ble_eq_true rfl⟩ ?_
    refine am_iconst cx (v := (4 : Int32)) dX10_crosses_29 (by decide) ?_
    refine am_icmp_ne cx (tgt := 37) dX10_crosses_30 (by decide) (fun h => ?_) (fun h => ?_)
    · have hres := am_ifn h hres
      refine am_iconst cx (v := (0 : Int32)) dX10_crosses_37 (by decide) ?_
      refine am_sub cx [0, 2] rfl ?_
      exact sn10_crosses_b38 cx hk4 hres
    · have hres := am_ifp h hres
      refine am_iconst cx (v := (1 : Int32)) dX10_crosses_33 (by decide) ?_
      refine am_goto cx (tgt := 38) dX10_crosses_34 (by decide) ?_
      refine am_sub cx [0, 2] rfl ?_
      exact sn10_crosses_b38 cx hk4 hres
set_option maxRecDepth 20000 in
theorem sn10_crosses_b4 {l : Launch} {G : am_G} {v : Int32} {M' : am_Mem} {N : Nat}  (cx : am_Ctx l rm10_crosses yX10_crosses cX10_crosses 3 (some .int) (some (.inl v)) M' 0 0 G)  (i : Nat) : ∀ (r0 : Nat) (x1 : Int32) (x2 : Int32) (M : am_Mem), fn10_crosses_b4 N  i r0 x1 x2 M = some (v, M') → G 4 [(0, .inr (.inr r0)), (1, .inl x1), (2, .inl x2)] [] M 0 0 := by
  induction i with
  | zero => intro r0 x1 x2 M hres; exact am_no hres
  | succ i ih => intro r0 x1 x2 M hres; exact sn10_crosses_b4B cx ih hres
set_option maxRecDepth 20000 in
theorem sn10_crosses_b0 {l : Launch} {G : am_G} {v : Int32} {M' : am_Mem} {N : Nat}  (cx : am_Ctx l rm10_crosses yX10_crosses cX10_crosses 3 (some .int) (some (.inl v)) M' 0 0 G)  {r0 : Nat} {M : am_Mem} (hres : fn10_crosses_b0 N  r0 M = some (v, M')) : G 0 [(0, .inr (.inr r0))] [] M 0 0 := by
  unfold fn10_crosses_b0 at hres
  refine am_iconst cx (v := (0 : Int32)) dX10_crosses_0 (by decide) ?_
  refine am_istore_n cx (lv' := [(0, .inr (.inr r0)), (1, .inl (0 : Int32))]) dX10_crosses_1 (Nat.le_of_ble_eq_true rfl) rfl ?_
  refine am_iconst cx (v := (0 : Int32)) dX10_crosses_2 (by decide) ?_
  refine am_istore_n cx (lv' := [(0, .inr (.inr r0)), (1, .inl (0 : Int32)), (2, .inl (0 : Int32))]) dX10_crosses_3 (Nat.le_of_ble_eq_true rfl) rfl ?_
  exact sn10_crosses_b4 cx  N _ _ _ _ hres
set_option maxRecDepth 20000 in
theorem mt10_crosses {l : Launch} {v : Int32} {M M' : am_Mem} {N : Nat} {r0 : Nat} (h : fn10_crosses N M r0 = some (v, M')) : am_Met l yX10_crosses cX10_crosses 3 (some .int) rm10_crosses 0 0 [.inr (.inr r0)] M (some (.inl v)) M' := am_mk (by decide) (Nat.le_of_ble_eq_true rfl) (fun G cx => (sn10_crosses_b0 cx h))
-- SquareCuts.<init>
def fn11_init_b125 (N : Nat)   (M : am_Mem) : Option (Unit × am_Mem) :=
  some ((), M)
def fn11_init_b114 (N : Nat)  (r0 : Nat) (M : am_Mem) : Option (Unit × am_Mem) :=
  am_ck (am_k (am_new M 9 0) (am_n M + 1) 9) (am_bd (fn9_init (am_new M 9 0) (am_n M + 1)) (fun v2 M3 => am_ck (am_k M3 r0 11) (fn11_init_b125 N   (am_wR M3 r0 10 (am_n M + 1)))))
def fn11_init_b103 (N : Nat)  (r0 : Nat) (M : am_Mem) : Option (Unit × am_Mem) :=
  am_ck (am_k (am_new M 9 0) (am_n M + 1) 9) (am_bd (fn9_init (am_new M 9 0) (am_n M + 1)) (fun v2 M3 => am_ck (am_k M3 r0 11) (fn11_init_b114 N  r0 (am_wR M3 r0 9 (am_n M + 1)))))
def fn11_init_b92 (N : Nat)  (r0 : Nat) (M : am_Mem) : Option (Unit × am_Mem) :=
  am_ck (am_k (am_new M 9 0) (am_n M + 1) 9) (am_bd (fn9_init (am_new M 9 0) (am_n M + 1)) (fun v2 M3 => am_ck (am_k M3 r0 11) (fn11_init_b103 N  r0 (am_wR M3 r0 8 (am_n M + 1)))))
def fn11_init_b81 (N : Nat)  (r0 : Nat) (M : am_Mem) : Option (Unit × am_Mem) :=
  am_ck (am_k (am_new M 7 0) (am_n M + 1) 7) (am_bd (fn7_init (am_new M 7 0) (am_n M + 1)) (fun v2 M3 => am_ck (am_k M3 r0 11) (fn11_init_b92 N  r0 (am_wR M3 r0 7 (am_n M + 1)))))
def fn11_init_b70 (N : Nat)  (r0 : Nat) (M : am_Mem) : Option (Unit × am_Mem) :=
  am_ck (am_k (am_new M 2 0) (am_n M + 1) 2) (am_bd (fn2_init (am_new M 2 0) (am_n M + 1)) (fun v2 M3 => am_ck (am_k M3 r0 11) (fn11_init_b81 N  r0 (am_wR M3 r0 6 (am_n M + 1)))))
def fn11_init_b59 (N : Nat)  (r0 : Nat) (M : am_Mem) : Option (Unit × am_Mem) :=
  am_ck (am_k (am_new M 0 0) (am_n M + 1) 0) (am_bd (fn0_init (am_new M 0 0) (am_n M + 1)) (fun v2 M3 => am_ck (am_k M3 r0 11) (fn11_init_b70 N  r0 (am_wR M3 r0 5 (am_n M + 1)))))
def fn11_init_b48 (N : Nat)  (r0 : Nat) (M : am_Mem) : Option (Unit × am_Mem) :=
  am_ck (am_k (am_new M 0 0) (am_n M + 1) 0) (am_bd (fn0_init (am_new M 0 0) (am_n M + 1)) (fun v2 M3 => am_ck (am_k M3 r0 11) (fn11_init_b59 N  r0 (am_wR M3 r0 4 (am_n M + 1)))))
def fn11_init_b37 (N : Nat)  (r0 : Nat) (M : am_Mem) : Option (Unit × am_Mem) :=
  am_ck (am_k (am_new M 4 0) (am_n M + 1) 4) (am_bd (fn4_init N (am_new M 4 0) (am_n M + 1)) (fun v2 M3 => am_ck (am_k M3 r0 11) (fn11_init_b48 N  r0 (am_wR M3 r0 3 (am_n M + 1)))))
def fn11_init_b26 (N : Nat)  (r0 : Nat) (M : am_Mem) : Option (Unit × am_Mem) :=
  am_ck (am_k (am_new M 5 0) (am_n M + 1) 5) (am_bd (fn5_init (am_new M 5 0) (am_n M + 1)) (fun v2 M3 => am_ck (am_k M3 r0 11) (fn11_init_b37 N  r0 (am_wR M3 r0 2 (am_n M + 1)))))
def fn11_init_b15 (N : Nat)  (r0 : Nat) (M : am_Mem) : Option (Unit × am_Mem) :=
  am_ck (am_k (am_new M 1 0) (am_n M + 1) 1) (am_bd (fn1_init (am_new M 1 0) (am_n M + 1)) (fun v2 M3 => am_ck (am_k M3 r0 11) (fn11_init_b26 N  r0 (am_wR M3 r0 1 (am_n M + 1)))))
def fn11_init_b0 (N : Nat)  (r0 : Nat) (M : am_Mem) : Option (Unit × am_Mem) :=
  am_ck (am_k M r0 11) (am_ck (am_k (am_new M 8 0) (am_n M + 1) 8) (am_bd (fn8_init (am_new M 8 0) (am_n M + 1)) (fun v3 M4 => am_ck (am_k M4 r0 11) (fn11_init_b15 N  r0 (am_wR M4 r0 0 (am_n M + 1))))))
def fn11_init (N : Nat) (M : am_Mem) (r0 : Nat) : Option (Unit × am_Mem) := fn11_init_b0 N r0 M
def rm11_init : Room := { frames := 3, cells := 111, slots := 3223, locals := 62 }
set_option maxRecDepth 20000 in
theorem sn11_init_b125 {l : Launch} {G : am_G} {M' : am_Mem} {N : Nat}  (cx : am_Ctx l rm11_init yX11_init cX11_init 1 none none M' 111 3223 G)   {M : am_Mem} (hres : fn11_init_b125 N   M = some ((), M')) : G 125 [] [] M 111 3223 := by
  unfold fn11_init_b125 at hres
  obtain ⟨-, rfl⟩ := am_fin hres
  exact am_vret cx dX11_init_125
set_option maxRecDepth 20000 in
theorem sn11_init_b114 {l : Launch} {G : am_G} {M' : am_Mem} {N : Nat}  (cx : am_Ctx l rm11_init yX11_init cX11_init 1 none none M' 111 3223 G)  {r0 : Nat} {M : am_Mem} (hres : fn11_init_b114 N  r0 M = some ((), M')) : G 114 [(0, .inr (.inr r0))] [] M 109 3208 := by
  unfold fn11_init_b114 at hres
  refine am_aload_n cx 0 dX11_init_114 rfl ?_
  refine am_newO cx dX11_init_115 nwX11_63 (Nat.le_of_ble_eq_true rfl) (Nat.le_of_ble_eq_true rfl) ?_
  refine am_dup cx dX11_init_118 rfl ?_
  obtain ⟨q1, hres⟩ := am_ck_some hres
  obtain ⟨v2, M3, q4, hres⟩ := am_bd_some hres
  refine am_callIN0 cx [] dX11_init_119 ciX11_65 (mt9_init q4) (by rw [show am_K _ _ = 9 from (am_ke q1)]; decide) ⟨rfl, rfl, Nat.le_of_ble_eq_true rfl, Nat.le_of_ble_eq_true rfl⟩ rfl (Nat.le_of_ble_eq_true rfl) ⟨Nat.le_of_ble_eq_true rfl, Nat.le_of_ble_eq_true rfl⟩ ?_
  obtain ⟨q5, hres⟩ := am_ck_some hres
  refine am_putR cx dX11_init_122 fpX11_73 (fun _ => rfl) (Or.inl ⟨_, rfl⟩) (am_ke q5) ?_
  refine am_sub cx [] rfl ?_
  exact sn11_init_b125 cx  hres
set_option maxRecDepth 20000 in
theorem sn11_init_b103 {l : Launch} {G : am_G} {M' : am_Mem} {N : Nat}  (cx : am_Ctx l rm11_init yX11_init cX11_init 1 none none M' 111 3223 G)  {r0 : Nat} {M : am_Mem} (hres : fn11_init_b103 N  r0 M = some ((), M')) : G 103 [(0, .inr (.inr r0))] [] M 107 3193 := by
  unfold fn11_init_b103 at hres
  refine am_aload_n cx 0 dX11_init_103 rfl ?_
  refine am_newO cx dX11_init_104 nwX11_63 (Nat.le_of_ble_eq_true rfl) (Nat.le_of_ble_eq_true rfl) ?_
  refine am_dup cx dX11_init_107 rfl ?_
  obtain ⟨q1, hres⟩ := am_ck_some hres
  obtain ⟨v2, M3, q4, hres⟩ := am_bd_some hres
  refine am_callIN0 cx [] dX11_init_108 ciX11_65 (mt9_init q4) (by rw [show am_K _ _ = 9 from (am_ke q1)]; decide) ⟨rfl, rfl, Nat.le_of_ble_eq_true rfl, Nat.le_of_ble_eq_true rfl⟩ rfl (Nat.le_of_ble_eq_true rfl) ⟨Nat.le_of_ble_eq_true rfl, Nat.le_of_ble_eq_true rfl⟩ ?_
  obtain ⟨q5, hres⟩ := am_ck_some hres
  refine am_putR cx dX11_init_111 fpX11_70 (fun _ => rfl) (Or.inl ⟨_, rfl⟩) (am_ke q5) ?_
  exact sn11_init_b114 cx  hres
set_option maxRecDepth 20000 in
theorem sn11_init_b92 {l : Launch} {G : am_G} {M' : am_Mem} {N : Nat}  (cx : am_Ctx l rm11_init yX11_init cX11_init 1 none none M' 111 3223 G)  {r0 : Nat} {M : am_Mem} (hres : fn11_init_b92 N  r0 M = some ((), M')) : G 92 [(0, .inr (.inr r0))] [] M 105 3178 := by
  unfold fn11_init_b92 at hres
  refine am_aload_n cx 0 dX11_init_92 rfl ?_
  refine am_newO cx dX11_init_93 nwX11_63 (Nat.le_of_ble_eq_true rfl) (Nat.le_of_ble_eq_true rfl) ?_
  refine am_dup cx dX11_init_96 rfl ?_
  obtain ⟨q1, hres⟩ := am_ck_some hres
  obtain ⟨v2, M3, q4, hres⟩ := am_bd_some hres
  refine am_callIN0 cx [] dX11_init_97 ciX11_65 (mt9_init q4) (by rw [show am_K _ _ = 9 from (am_ke q1)]; decide) ⟨rfl, rfl, Nat.le_of_ble_eq_true rfl, Nat.le_of_ble_eq_true rfl⟩ rfl (Nat.le_of_ble_eq_true rfl) ⟨Nat.le_of_ble_eq_true rfl, Nat.le_of_ble_eq_true rfl⟩ ?_
  obtain ⟨q5, hres⟩ := am_ck_some hres
  refine am_putR cx dX11_init_100 fpX11_66 (fun _ => rfl) (Or.inl ⟨_, rfl⟩) (am_ke q5) ?_
  exact sn11_init_b103 cx  hres
set_option maxRecDepth 20000 in
theorem sn11_init_b81 {l : Launch} {G : am_G} {M' : am_Mem} {N : Nat}  (cx : am_Ctx l rm11_init yX11_init cX11_init 1 none none M' 111 3223 G)  {r0 : Nat} {M : am_Mem} (hres : fn11_init_b81 N  r0 M = some ((), M')) : G 81 [(0, .inr (.inr r0))] [] M 103 2696 := by
  unfold fn11_init_b81 at hres
  refine am_aload_n cx 0 dX11_init_81 rfl ?_
  refine am_newO cx dX11_init_82 nwX11_56 (Nat.le_of_ble_eq_true rfl) (Nat.le_of_ble_eq_true rfl) ?_
  refine am_dup cx dX11_init_85 rfl ?_
  obtain ⟨q1, hres⟩ := am_ck_some hres
  obtain ⟨v2, M3, q4, hres⟩ := am_bd_some hres
  refine am_callIN0 cx [] dX11_init_86 ciX11_58 (mt7_init q4) (by rw [show am_K _ _ = 7 from (am_ke q1)]; decide) ⟨rfl, rfl, Nat.le_of_ble_eq_true rfl, Nat.le_of_ble_eq_true rfl⟩ rfl (Nat.le_of_ble_eq_true rfl) ⟨Nat.le_of_ble_eq_true rfl, Nat.le_of_ble_eq_true rfl⟩ ?_
  obtain ⟨q5, hres⟩ := am_ck_some hres
  refine am_putR cx dX11_init_89 fpX11_59 (fun _ => rfl) (Or.inl ⟨_, rfl⟩) (am_ke q5) ?_
  exact sn11_init_b92 cx  hres
set_option maxRecDepth 20000 in
theorem sn11_init_b70 {l : Launch} {G : am_G} {M' : am_Mem} {N : Nat}  (cx : am_Ctx l rm11_init yX11_init cX11_init 1 none none M' 111 3223 G)  {r0 : Nat} {M : am_Mem} (hres : fn11_init_b70 N  r0 M = some ((), M')) : G 70 [(0, .inr (.inr r0))] [] M 98 2370 := by
  unfold fn11_init_b70 at hres
  refine am_aload_n cx 0 dX11_init_70 rfl ?_
  refine am_newO cx dX11_init_71 nwX11_49 (Nat.le_of_ble_eq_true rfl) (Nat.le_of_ble_eq_true rfl) ?_
  refine am_dup cx dX11_init_74 rfl ?_
  obtain ⟨q1, hres⟩ := am_ck_some hres
  obtain ⟨v2, M3, q4, hres⟩ := am_bd_some hres
  refine am_callIN0 cx [] dX11_init_75 ciX11_51 (mt2_init q4) (by rw [show am_K _ _ = 2 from (am_ke q1)]; decide) ⟨rfl, rfl, Nat.le_of_ble_eq_true rfl, Nat.le_of_ble_eq_true rfl⟩ rfl (Nat.le_of_ble_eq_true rfl) ⟨Nat.le_of_ble_eq_true rfl, Nat.le_of_ble_eq_true rfl⟩ ?_
  obtain ⟨q5, hres⟩ := am_ck_some hres
  refine am_putR cx dX11_init_78 fpX11_52 (fun _ => rfl) (Or.inl ⟨_, rfl⟩) (am_ke q5) ?_
  exact sn11_init_b81 cx  hres
set_option maxRecDepth 20000 in
theorem sn11_init_b59 {l : Launch} {G : am_G} {M' : am_Mem} {N : Nat}  (cx : am_Ctx l rm11_init yX11_init cX11_init 1 none none M' 111 3223 G)  {r0 : Nat} {M : am_Mem} (hres : fn11_init_b59 N  r0 M = some ((), M')) : G 59 [(0, .inr (.inr r0))] [] M 94 2244 := by
  unfold fn11_init_b59 at hres
  refine am_aload_n cx 0 dX11_init_59 rfl ?_
  refine am_newO cx dX11_init_60 nwX11_39 (Nat.le_of_ble_eq_true rfl) (Nat.le_of_ble_eq_true rfl) ?_
  refine am_dup cx dX11_init_63 rfl ?_
  obtain ⟨q1, hres⟩ := am_ck_some hres
  obtain ⟨v2, M3, q4, hres⟩ := am_bd_some hres
  refine am_callIN0 cx [] dX11_init_64 ciX11_41 (mt0_init q4) (by rw [show am_K _ _ = 0 from (am_ke q1)]; decide) ⟨rfl, rfl, Nat.le_of_ble_eq_true rfl, Nat.le_of_ble_eq_true rfl⟩ rfl (Nat.le_of_ble_eq_true rfl) ⟨Nat.le_of_ble_eq_true rfl, Nat.le_of_ble_eq_true rfl⟩ ?_
  obtain ⟨q5, hres⟩ := am_ck_some hres
  refine am_putR cx dX11_init_67 fpX11_46 (fun _ => rfl) (Or.inl ⟨_, rfl⟩) (am_ke q5) ?_
  exact sn11_init_b70 cx  hres
set_option maxRecDepth 20000 in
theorem sn11_init_b48 {l : Launch} {G : am_G} {M' : am_Mem} {N : Nat}  (cx : am_Ctx l rm11_init yX11_init cX11_init 1 none none M' 111 3223 G)  {r0 : Nat} {M : am_Mem} (hres : fn11_init_b48 N  r0 M = some ((), M')) : G 48 [(0, .inr (.inr r0))] [] M 90 2118 := by
  unfold fn11_init_b48 at hres
  refine am_aload_n cx 0 dX11_init_48 rfl ?_
  refine am_newO cx dX11_init_49 nwX11_39 (Nat.le_of_ble_eq_true rfl) (Nat.le_of_ble_eq_true rfl) ?_
  refine am_dup cx dX11_init_52 rfl ?_
  obtain ⟨q1, hres⟩ := am_ck_some hres
  obtain ⟨v2, M3, q4, hres⟩ := am_bd_some hres
  refine am_callIN0 cx [] dX11_init_53 ciX11_41 (mt0_init q4) (by rw [show am_K _ _ = 0 from (am_ke q1)]; decide) ⟨rfl, rfl, Nat.le_of_ble_eq_true rfl, Nat.le_of_ble_eq_true rfl⟩ rfl (Nat.le_of_ble_eq_true rfl) ⟨Nat.le_of_ble_eq_true rfl, Nat.le_of_ble_eq_true rfl⟩ ?_
  obtain ⟨q5, hres⟩ := am_ck_some hres
  refine am_putR cx dX11_init_56 fpX11_42 (fun _ => rfl) (Or.inl ⟨_, rfl⟩) (am_ke q5) ?_
  exact sn11_init_b59 cx  hres
set_option maxRecDepth 20000 in
theorem sn11_init_b37 {l : Launch} {G : am_G} {M' : am_Mem} {N : Nat}  (cx : am_Ctx l rm11_init yX11_init cX11_init 1 none none M' 111 3223 G)  {r0 : Nat} {M : am_Mem} (hres : fn11_init_b37 N  r0 M = some ((), M')) : G 37 [(0, .inr (.inr r0))] [] M 37 1192 := by
  unfold fn11_init_b37 at hres
  refine am_aload_n cx 0 dX11_init_37 rfl ?_
  refine am_newO cx dX11_init_38 nwX11_32 (Nat.le_of_ble_eq_true rfl) (Nat.le_of_ble_eq_true rfl) ?_
  refine am_dup cx dX11_init_41 rfl ?_
  obtain ⟨q1, hres⟩ := am_ck_some hres
  obtain ⟨v2, M3, q4, hres⟩ := am_bd_some hres
  refine am_callI0 cx [] dX11_init_42 ciX11_34 (mt4_init q4) (by rw [show am_K _ _ = 4 from (am_ke q1)]; decide) ⟨rfl, rfl, Nat.le_of_ble_eq_true rfl, Nat.le_of_ble_eq_true rfl⟩ rfl (Nat.le_of_ble_eq_true rfl) ⟨Nat.le_of_ble_eq_true rfl, Nat.le_of_ble_eq_true rfl⟩ ?_
  obtain ⟨q5, hres⟩ := am_ck_some hres
  refine am_putR cx dX11_init_45 fpX11_35 (fun _ => rfl) (Or.inl ⟨_, rfl⟩) (am_ke q5) ?_
  exact sn11_init_b48 cx  hres
set_option maxRecDepth 20000 in
theorem sn11_init_b26 {l : Launch} {G : am_G} {M' : am_Mem} {N : Nat}  (cx : am_Ctx l rm11_init yX11_init cX11_init 1 none none M' 111 3223 G)  {r0 : Nat} {M : am_Mem} (hres : fn11_init_b26 N  r0 M = some ((), M')) : G 26 [(0, .inr (.inr r0))] [] M 23 1047 := by
  unfold fn11_init_b26 at hres
  refine am_aload_n cx 0 dX11_init_26 rfl ?_
  refine am_newO cx dX11_init_27 nwX11_25 (Nat.le_of_ble_eq_true rfl) (Nat.le_of_ble_eq_true rfl) ?_
  refine am_dup cx dX11_init_30 rfl ?_
  obtain ⟨q1, hres⟩ := am_ck_some hres
  obtain ⟨v2, M3, q4, hres⟩ := am_bd_some hres
  refine am_callIN0 cx [] dX11_init_31 ciX11_27 (mt5_init q4) (by rw [show am_K _ _ = 5 from (am_ke q1)]; decide) ⟨rfl, rfl, Nat.le_of_ble_eq_true rfl, Nat.le_of_ble_eq_true rfl⟩ rfl (Nat.le_of_ble_eq_true rfl) ⟨Nat.le_of_ble_eq_true rfl, Nat.le_of_ble_eq_true rfl⟩ ?_
  obtain ⟨q5, hres⟩ := am_ck_some hres
  refine am_putR cx dX11_init_34 fpX11_28 (fun _ => rfl) (Or.inl ⟨_, rfl⟩) (am_ke q5) ?_
  exact sn11_init_b37 cx  hres
set_option maxRecDepth 20000 in
theorem sn11_init_b15 {l : Launch} {G : am_G} {M' : am_Mem} {N : Nat}  (cx : am_Ctx l rm11_init yX11_init cX11_init 1 none none M' 111 3223 G)  {r0 : Nat} {M : am_Mem} (hres : fn11_init_b15 N  r0 M = some ((), M')) : G 15 [(0, .inr (.inr r0))] [] M 19 991 := by
  unfold fn11_init_b15 at hres
  refine am_aload_n cx 0 dX11_init_15 rfl ?_
  refine am_newO cx dX11_init_16 nwX11_18 (Nat.le_of_ble_eq_true rfl) (Nat.le_of_ble_eq_true rfl) ?_
  refine am_dup cx dX11_init_19 rfl ?_
  obtain ⟨q1, hres⟩ := am_ck_some hres
  obtain ⟨v2, M3, q4, hres⟩ := am_bd_some hres
  refine am_callIN0 cx [] dX11_init_20 ciX11_20 (mt1_init q4) (by rw [show am_K _ _ = 1 from (am_ke q1)]; decide) ⟨rfl, rfl, Nat.le_of_ble_eq_true rfl, Nat.le_of_ble_eq_true rfl⟩ rfl (Nat.le_of_ble_eq_true rfl) ⟨Nat.le_of_ble_eq_true rfl, Nat.le_of_ble_eq_true rfl⟩ ?_
  obtain ⟨q5, hres⟩ := am_ck_some hres
  refine am_putR cx dX11_init_23 fpX11_21 (fun _ => rfl) (Or.inl ⟨_, rfl⟩) (am_ke q5) ?_
  exact sn11_init_b26 cx  hres
set_option maxRecDepth 20000 in
theorem sn11_init_b0 {l : Launch} {G : am_G} {M' : am_Mem} {N : Nat}  (cx : am_Ctx l rm11_init yX11_init cX11_init 1 none none M' 111 3223 G)  {r0 : Nat} {M : am_Mem} (hres : fn11_init_b0 N  r0 M = some ((), M')) : G 0 [(0, .inr (.inr r0))] [] M 0 0 := by
  unfold fn11_init_b0 at hres
  refine am_aload_n cx 0 dX11_init_0 rfl ?_
  obtain ⟨q1, hres⟩ := am_ck_some hres
  refine am_objInit cx dX11_init_1 aw_1_30 aw_1_31 aw_1_32 (by rw [show am_K _ _ = 11 from (am_ke q1)]; decide) (Nat.le_of_ble_eq_true rfl) (Nat.le_of_ble_eq_true rfl) ?_
  refine am_aload_n cx 0 dX11_init_4 rfl ?_
  refine am_newO cx dX11_init_5 nwX11_9 (Nat.le_of_ble_eq_true rfl) (Nat.le_of_ble_eq_true rfl) ?_
  refine am_dup cx dX11_init_8 rfl ?_
  obtain ⟨q2, hres⟩ := am_ck_some hres
  obtain ⟨v3, M4, q5, hres⟩ := am_bd_some hres
  refine am_callIN0 cx [] dX11_init_9 ciX11_11 (mt8_init q5) (by rw [show am_K _ _ = 8 from (am_ke q2)]; decide) ⟨rfl, rfl, Nat.le_of_ble_eq_true rfl, Nat.le_of_ble_eq_true rfl⟩ rfl (Nat.le_of_ble_eq_true rfl) ⟨Nat.le_of_ble_eq_true rfl, Nat.le_of_ble_eq_true rfl⟩ ?_
  obtain ⟨q6, hres⟩ := am_ck_some hres
  refine am_putR cx dX11_init_12 fpX11_12 (fun _ => rfl) (Or.inl ⟨_, rfl⟩) (am_ke q6) ?_
  exact sn11_init_b15 cx  hres
set_option maxRecDepth 20000 in
theorem mt11_init {l : Launch} {M M' : am_Mem} {N : Nat} {r0 : Nat} (h : fn11_init N M r0 = some ((), M')) : am_Met l yX11_init cX11_init 1 none rm11_init 111 3223 [.inr (.inr r0)] M none M' := am_mk (by decide) (Nat.le_of_ble_eq_true rfl) (fun G cx => (sn11_init_b0 cx h))
-- SquareCuts.rect
def fn11_rect_b23 (N : Nat)   (M : am_Mem) : Option (Int32 × am_Mem) :=
  some ((-1 : Int32), M)
def fn11_rect_b111 (N : Nat)  (a0 : Int32) (M : am_Mem) : Option (Int32 × am_Mem) :=
  some (a0, M)
def fn11_rect_b124 (N : Nat)  (a0 : Int32) (M : am_Mem) : Option (Int32 × am_Mem) :=
  some (a0, M)
def fn11_rect_b0 (N : Nat)  (r0 : Nat) (x1 : Int32) (x2 : Int32) (M : am_Mem) : Option (Int32 × am_Mem) :=
  am_ck (am_k M r0 11) (am_ck (am_k M (am_R M r0 8) 9) (am_bd (fn9_find M (am_R M r0 8) x1) (fun v3 M4 => if v3 = 0 then fn11_rect_b23 N   M4 else if x2 < 0 then fn11_rect_b23 N   M4 else if x2 ≤ (7 : Int32) then if x2 = (7 : Int32) then am_ck (am_k M4 v3 10) (some ((am_I M4 v3 0), M4)) else am_ck (am_k M4 v3 10) (if (am_I M4 v3 1) = 0 then if x2 = (0 : Int32) then (some ((am_I M4 v3 4), M4)) else (if x2 = (1 : Int32) then (some ((am_I M4 v3 5), M4)) else (if x2 = (2 : Int32) then (some ((am_I M4 v3 6), M4)) else (if x2 = (3 : Int32) then (am_bd (fn10_isPerfect N M4 v3) (fun v11 M12 => if v11 = 0 then fn11_rect_b111 N  (0 : Int32) M12 else fn11_rect_b111 N  (1 : Int32) M12)) else (if x2 = (4 : Int32) then (am_bd (fn10_parts N M4 v3) (fun v15 M16 => if v15 = 0 then fn11_rect_b124 N  (1 : Int32) M16 else fn11_rect_b124 N  (0 : Int32) M16)) else (if x2 = (5 : Int32) then (am_bd (fn10_parts N M4 v3) (fun v19 M20 => some (v19, M20))) else (am_bd (fn10_crosses N M4 v3) (fun v22 M23 => some (v22, M23)))))))) else some ((-2 : Int32), M4)) else fn11_rect_b23 N   M4)))
def fn11_rect (N : Nat) (M : am_Mem) (r0 : Nat) (x1 : Int32) (x2 : Int32) : Option (Int32 × am_Mem) := fn11_rect_b0 N r0 x1 x2 M
def rm11_rect : Room := { frames := 3, cells := 0, slots := 0, locals := 73 }
set_option maxRecDepth 20000 in
theorem sn11_rect_b23 {l : Launch} {G : am_G} {v : Int32} {M' : am_Mem} {N : Nat}  (cx : am_Ctx l rm11_rect yX11_rect cX11_rect 4 (some .int) (some (.inl v)) M' 0 0 G)   {M : am_Mem} (hres : fn11_rect_b23 N   M = some (v, M')) : G 23 [] [] M 0 0 := by
  unfold fn11_rect_b23 at hres
  refine am_iconst cx (v := (-1 : Int32)) dX11_rect_23 (by decide) ?_
  obtain ⟨rfl, rfl⟩ := am_fin hres
  exact am_iret cx dX11_rect_24
set_option maxRecDepth 20000 in
theorem sn11_rect_b111 {l : Launch} {G : am_G} {v : Int32} {M' : am_Mem} {N : Nat}  (cx : am_Ctx l rm11_rect yX11_rect cX11_rect 4 (some .int) (some (.inl v)) M' 0 0 G)  {a0 : Int32} {M : am_Mem} (hres : fn11_rect_b111 N  a0 M = some (v, M')) : G 111 [] [.inl a0] M 0 0 := by
  unfold fn11_rect_b111 at hres
  obtain ⟨rfl, rfl⟩ := am_fin hres
  exact am_iret cx dX11_rect_111
set_option maxRecDepth 20000 in
theorem sn11_rect_b124 {l : Launch} {G : am_G} {v : Int32} {M' : am_Mem} {N : Nat}  (cx : am_Ctx l rm11_rect yX11_rect cX11_rect 4 (some .int) (some (.inl v)) M' 0 0 G)  {a0 : Int32} {M : am_Mem} (hres : fn11_rect_b124 N  a0 M = some (v, M')) : G 124 [] [.inl a0] M 0 0 := by
  unfold fn11_rect_b124 at hres
  obtain ⟨rfl, rfl⟩ := am_fin hres
  exact am_iret cx dX11_rect_124
set_option maxRecDepth 20000 in
theorem sn11_rect_b0 {l : Launch} {G : am_G} {v : Int32} {M' : am_Mem} {N : Nat}  (cx : am_Ctx l rm11_rect yX11_rect cX11_rect 4 (some .int) (some (.inl v)) M' 0 0 G)  {r0 : Nat} {x1 : Int32} {x2 : Int32} {M : am_Mem} (hres : fn11_rect_b0 N  r0 x1 x2 M = some (v, M')) : G 0 [(0, .inr (.inr r0)), (1, .inl x1), (2, .inl x2)] [] M 0 0 := by
  unfold fn11_rect_b0 at hres
  refine am_aload_n cx 0 dX11_rect_0 rfl ?_
  obtain ⟨q1, hres⟩ := am_ck_some hres
  refine am_getR cx dX11_rect_1 flX11_66 (am_ke q1) ?_
  refine am_iload_n cx 1 dX11_rect_4 rfl ?_
  obtain ⟨q2, hres⟩ := am_ck_some hres
  obtain ⟨v3, M4, q5, hres⟩ := am_bd_some hres
  refine am_callV1 cx [.inl x1] dX11_rect_5 cvX11_115 (mt9_find q5) (am_ke q2) ⟨rfl, rfl, Nat.le_of_ble_eq_true rfl, Nat.le_of_ble_eq_true rfl⟩ rfl (Nat.le_of_ble_eq_true rfl) ⟨Nat.le_of_ble_eq_true rfl, Nat.le_of_ble_eq_true rfl⟩ ?_
  refine am_astore_n cx (lv' := [(0, .inr (.inr r0)), (1, .inl x1), (2, .inl x2), (3, .inr (.inr v3))]) dX11_rect_8 (Nat.le_of_ble_eq_true rfl) rfl ?_
  refine am_aload_n cx 3 dX11_rect_9 rfl ?_
  refine am_ifnull cx (tgt := 23) dX11_rect_10 (by decide) (fun h => ?_) (fun h => ?_)
  · have hres := am_ifp h hres
    refine am_sub cx [] rfl ?_
    exact sn11_rect_b23 cx  hres
  · have hres := am_ifn h hres
    refine am_iload_n cx 2 dX11_rect_13 rfl ?_
    refine am_if_lt cx (tgt := 23) dX11_rect_14 (by decide) (fun h => ?_) (fun h => ?_)
    · have hres := am_ifp h hres
      refine am_sub cx [] rfl ?_
      exact sn11_rect_b23 cx  hres
    · have hres := am_ifn h hres
      refine am_iload_n cx 2 dX11_rect_17 rfl ?_
      refine am_bipush cx (v := (7 : Int32)) dX11_rect_18 (by decide) ?_
      refine am_icmp_le cx (tgt := 25) dX11_rect_20 (by decide) (fun h => ?_) (fun h => ?_)
      · have hres := am_ifp h hres
        refine am_iload_n cx 2 dX11_rect_25 rfl ?_
        refine am_bipush cx (v := (7 : Int32)) dX11_rect_26 (by decide) ?_
        refine am_icmp_ne cx (tgt := 36) dX11_rect_28 (by decide) (fun h => ?_) (fun h => ?_)
        · have hres := am_ifn h hres
          refine am_aload_n cx 3 dX11_rect_36 rfl ?_
          obtain ⟨q6, hres⟩ := am_ck_some hres
          refine am_getI cx dX11_rect_37 flX11_123 (am_ke q6) ?_
          refine am_if_eq cx (tgt := 46) dX11_rect_40 (by decide) (fun h => ?_) (fun h => ?_)
          · have hres := am_ifp h hres
            refine am_iload_n cx 2 dX11_rect_46 rfl ?_
            by_cases w7 : x2 = (0 : Int32)
            · refine am_tableIn cx (tgt := 84) (off := 37) dX11_rect_47 (by rw [w7]; decide) (by rw [w7]; decide) (by rw [w7]; decide) (by decide) ?_
              have hres := am_ifp w7 hres
              refine am_aload_n cx 3 dX11_rect_84 rfl ?_
              refine am_getI cx dX11_rect_85 flX11_127 (am_ke q6) ?_
              obtain ⟨rfl, rfl⟩ := am_fin hres
              exact am_iret cx dX11_rect_88
            have hres := am_ifn w7 hres
            by_cases w8 : x2 = (1 : Int32)
            · refine am_tableIn cx (tgt := 89) (off := 42) dX11_rect_47 (by rw [w8]; decide) (by rw [w8]; decide) (by rw [w8]; decide) (by decide) ?_
              have hres := am_ifp w8 hres
              refine am_aload_n cx 3 dX11_rect_89 rfl ?_
              refine am_getI cx dX11_rect_90 flX11_130 (am_ke q6) ?_
              obtain ⟨rfl, rfl⟩ := am_fin hres
              exact am_iret cx dX11_rect_93
            have hres := am_ifn w8 hres
            by_cases w9 : x2 = (2 : Int32)
            · refine am_tableIn cx (tgt := 94) (off := 47) dX11_rect_47 (by rw [w9]; decide) (by rw [w9]; decide) (by rw [w9]; decide) (by decide) ?_
              have hres := am_ifp w9 hres
              refine am_aload_n cx 3 dX11_rect_94 rfl ?_
              refine am_getI cx dX11_rect_95 flX11_133 (am_ke q6) ?_
              obtain ⟨rfl, rfl⟩ := am_fin hres
              exact am_iret cx dX11_rect_98
            have hres := am_ifn w9 hres
            by_cases w10 : x2 = (3 : Int32)
            · refine am_tableIn cx (tgt := 99) (off := 52) dX11_rect_47 (by rw [w10]; decide) (by rw [w10]; decide) (by rw [w10]; decide) (by decide) ?_
              have hres := am_ifp w10 hres
              refine am_aload_n cx 3 dX11_rect_99 rfl ?_
              obtain ⟨v11, M12, q13, hres⟩ := am_bd_some hres
              refine am_callV1 cx [] dX11_rect_100 cvX11_136 (mt10_isPerfect q13) (am_ke q6) ⟨rfl, rfl, Nat.le_of_ble_eq_true rfl, Nat.le_of_ble_eq_true rfl⟩ rfl (Nat.le_of_ble_eq_true rfl) ⟨Nat.le_of_ble_eq_true rfl, Nat.le_of_ble_eq_true rfl⟩ ?_
              refine am_if_eq cx (tgt := 110) dX11_rect_103 (by decide) (fun h => ?_) (fun h => ?_)
              · have hres := am_ifp h hres
                refine am_iconst cx (v := (0 : Int32)) dX11_rect_110 (by decide) ?_
                refine am_sub cx [] rfl ?_
                exact sn11_rect_b111 cx  hres
              · have hres := am_ifn h hres
                refine am_iconst cx (v := (1 : Int32)) dX11_rect_106 (by decide) ?_
                refine am_goto cx (tgt := 111) dX11_rect_107 (by decide) ?_
                refine am_sub cx [] rfl ?_
                exact sn11_rect_b111 cx  hres
            have hres := am_ifn w10 hres
            by_cases w14 : x2 = (4 : Int32)
            · refine am_tableIn cx (tgt := 112) (off := 65) dX11_rect_47 (by rw [w14]; decide) (by rw [w14]; decide) (by rw [w14]; decide) (by decide) ?_
              have hres := am_ifp w14 hres
              refine am_aload_n cx 3 dX11_rect_112 rfl ?_
              obtain ⟨v15, M16, q17, hres⟩ := am_bd_some hres
              refine am_callV1 cx [] dX11_rect_113 cvX11_140 (mt10_parts q17) (am_ke q6) ⟨rfl, rfl, Nat.le_of_ble_eq_true rfl, Nat.le_of_ble_eq_true rfl⟩ rfl (Nat.le_of_ble_eq_true rfl) ⟨Nat.le_of_ble_eq_true rfl, Nat.le_of_ble_eq_true rfl⟩ ?_
              refine am_if_ne cx (tgt := 123) dX11_rect_116 (by decide) (fun h => ?_) (fun h => ?_)
              · have hres := am_ifn h hres
                refine am_iconst cx (v := (0 : Int32)) dX11_rect_123 (by decide) ?_
                refine am_sub cx [] rfl ?_
                exact sn11_rect_b124 cx  hres
              · have hres := am_ifp h hres
                refine am_iconst cx (v := (1 : Int32)) dX11_rect_119 (by decide) ?_
                refine am_goto cx (tgt := 124) dX11_rect_120 (by decide) ?_
                refine am_sub cx [] rfl ?_
                exact sn11_rect_b124 cx  hres
            have hres := am_ifn w14 hres
            by_cases w18 : x2 = (5 : Int32)
            · refine am_tableIn cx (tgt := 125) (off := 78) dX11_rect_47 (by rw [w18]; decide) (by rw [w18]; decide) (by rw [w18]; decide) (by decide) ?_
              have hres := am_ifp w18 hres
              refine am_aload_n cx 3 dX11_rect_125 rfl ?_
              obtain ⟨v19, M20, q21, hres⟩ := am_bd_some hres
              refine am_callV1 cx [] dX11_rect_126 cvX11_140 (mt10_parts q21) (am_ke q6) ⟨rfl, rfl, Nat.le_of_ble_eq_true rfl, Nat.le_of_ble_eq_true rfl⟩ rfl (Nat.le_of_ble_eq_true rfl) ⟨Nat.le_of_ble_eq_true rfl, Nat.le_of_ble_eq_true rfl⟩ ?_
              obtain ⟨rfl, rfl⟩ := am_fin hres
              exact am_iret cx dX11_rect_129
            have hres := am_ifn w18 hres
            refine am_tableOut cx (tgt := 130) dX11_rect_47 (am_sw (fun cq h1 h2 => ?_)) (by decide) ?_
            · rcases (show cq = 0 ∨ cq = 1 ∨ cq = 2 ∨ cq = 3 ∨ cq = 4 ∨ cq = 5 by omega) with rfl | rfl | rfl | rfl | rfl | rfl
              · exact w7
              · exact w8
              · exact w9
              · exact w10
              · exact w14
              · exact w18
            skip
            refine am_aload_n cx 3 dX11_rect_130 rfl ?_
            obtain ⟨v22, M23, q24, hres⟩ := am_bd_some hres
            refine am_callV1 cx [] dX11_rect_131 cvX11_144 (mt10_crosses q24) (am_ke q6) ⟨rfl, rfl, Nat.le_of_ble_eq_true rfl, Nat.le_of_ble_eq_true rfl⟩ rfl (Nat.le_of_ble_eq_true rfl) ⟨Nat.le_of_ble_eq_true rfl, Nat.le_of_ble_eq_true rfl⟩ ?_
            obtain ⟨rfl, rfl⟩ := am_fin hres
            exact am_iret cx dX11_rect_134
          · have hres := am_ifn h hres
            refine am_bipush cx (v := (-2 : Int32)) dX11_rect_43 (by decide) ?_
            obtain ⟨rfl, rfl⟩ := am_fin hres
            exact am_iret cx dX11_rect_45
        · have hres := am_ifp h hres
          refine am_aload_n cx 3 dX11_rect_31 rfl ?_
          obtain ⟨q25, hres⟩ := am_ck_some hres
          refine am_getI cx dX11_rect_32 flX11_118 (am_ke q25) ?_
          obtain ⟨rfl, rfl⟩ := am_fin hres
          exact am_iret cx dX11_rect_35
      · have hres := am_ifn h hres
        refine am_sub cx [] rfl ?_
        exact sn11_rect_b23 cx  hres
set_option maxRecDepth 20000 in
theorem mt11_rect {l : Launch} {v : Int32} {M M' : am_Mem} {N : Nat} {r0 : Nat} {x1 : Int32} {x2 : Int32} (h : fn11_rect N M r0 x1 x2 = some (v, M')) : am_Met l yX11_rect cX11_rect 4 (some .int) rm11_rect 0 0 [.inr (.inr r0), .inl x1, .inl x2] M (some (.inl v)) M' := am_mk (by decide) (Nat.le_of_ble_eq_true rfl) (fun G cx => (sn11_rect_b0 cx h))
-- SquareCuts.area
def fn11_area_b20  (r2 : Nat) (M : am_Mem) : Option (Int64 × am_Mem) :=
  am_bd (fn11_refusalFor M r2) (fun v1 M2 => some (v1.toInt64, M2))
def fn11_area_b0  (r0 : Nat) (x1 : Int32) (M : am_Mem) : Option (Int64 × am_Mem) :=
  am_ck (am_k M r0 11) (am_ck (am_k M (am_R M r0 8) 9) (am_bd (fn9_find M (am_R M r0 8) x1) (fun v3 M4 => if v3 = 0 then fn11_area_b20  v3 M4 else am_ck (am_k M4 v3 10) (if (am_I M4 v3 1) = 0 then some (((am_I M4 v3 5).toInt64 * (am_I M4 v3 6).toInt64), M4) else fn11_area_b20  v3 M4))))
def fn11_area (M : am_Mem) (r0 : Nat) (x1 : Int32) : Option (Int64 × am_Mem) := fn11_area_b0  r0 x1 M
def rm11_area : Room := { frames := 1, cells := 0, slots := 0, locals := 21 }
set_option maxRecDepth 20000 in
theorem sn11_area_b20 {l : Launch} {G : am_G} {v : Int64} {M' : am_Mem}  (cx : am_Ctx l rm11_area yX11_area cX11_area 3 (some .long) (some (.inr (.inl v))) M' 0 0 G)  {r2 : Nat} {M : am_Mem} (hres : fn11_area_b20  r2 M = some (v, M')) : G 20 [(2, .inr (.inr r2))] [] M 0 0 := by
  unfold fn11_area_b20 at hres
  refine am_aload_n cx 0 dX11_area_20 rfl ?_
  obtain ⟨v1, M2, q3, hres⟩ := am_bd_some hres
  refine am_callS1 cx [.inr (.inr r2)] dX11_area_21 csX11_169 (mt11_refusalFor q3)  ⟨rfl, rfl, Nat.le_of_ble_eq_true rfl, Nat.le_of_ble_eq_true rfl⟩ rfl (Nat.le_of_ble_eq_true rfl) ⟨Nat.le_of_ble_eq_true rfl, Nat.le_of_ble_eq_true rfl⟩ ?_
  refine am_i2l cx dX11_area_24 ?_
  obtain ⟨rfl, rfl⟩ := am_fin hres
  exact am_lret cx dX11_area_25
set_option maxRecDepth 20000 in
theorem sn11_area_b0 {l : Launch} {G : am_G} {v : Int64} {M' : am_Mem}  (cx : am_Ctx l rm11_area yX11_area cX11_area 3 (some .long) (some (.inr (.inl v))) M' 0 0 G)  {r0 : Nat} {x1 : Int32} {M : am_Mem} (hres : fn11_area_b0  r0 x1 M = some (v, M')) : G 0 [(0, .inr (.inr r0)), (1, .inl x1)] [] M 0 0 := by
  unfold fn11_area_b0 at hres
  refine am_aload_n cx 0 dX11_area_0 rfl ?_
  obtain ⟨q1, hres⟩ := am_ck_some hres
  refine am_getR cx dX11_area_1 flX11_66 (am_ke q1) ?_
  refine am_iload_n cx 1 dX11_area_4 rfl ?_
  obtain ⟨q2, hres⟩ := am_ck_some hres
  obtain ⟨v3, M4, q5, hres⟩ := am_bd_some hres
  refine am_callV1 cx [.inl x1] dX11_area_5 cvX11_115 (mt9_find q5) (am_ke q2) ⟨rfl, rfl, Nat.le_of_ble_eq_true rfl, Nat.le_of_ble_eq_true rfl⟩ rfl (Nat.le_of_ble_eq_true rfl) ⟨Nat.le_of_ble_eq_true rfl, Nat.le_of_ble_eq_true rfl⟩ ?_
  refine am_astore_n cx (lv' := [(0, .inr (.inr r0)), (1, .inl x1), (2, .inr (.inr v3))]) dX11_area_8 (Nat.le_of_ble_eq_true rfl) rfl ?_
  refine am_aload_n cx 2 dX11_area_9 rfl ?_
  refine am_ifnull cx (tgt := 20) dX11_area_10 (by decide) (fun h => ?_) (fun h => ?_)
  · have hres := am_ifp h hres
    refine am_sub cx [2] rfl ?_
    exact sn11_area_b20 cx  hres
  · have hres := am_ifn h hres
    refine am_aload_n cx 2 dX11_area_13 rfl ?_
    obtain ⟨q6, hres⟩ := am_ck_some hres
    refine am_getI cx dX11_area_14 flX11_123 (am_ke q6) ?_
    refine am_if_eq cx (tgt := 26) dX11_area_17 (by decide) (fun h => ?_) (fun h => ?_)
    · have hres := am_ifp h hres
      refine am_aload_n cx 2 dX11_area_26 rfl ?_
      refine am_getI cx dX11_area_27 flX11_130 (am_ke q6) ?_
      refine am_i2l cx dX11_area_30 ?_
      refine am_aload_n cx 2 dX11_area_31 rfl ?_
      refine am_getI cx dX11_area_32 flX11_133 (am_ke q6) ?_
      refine am_i2l cx dX11_area_35 ?_
      refine am_lmul cx dX11_area_36 ?_
      obtain ⟨rfl, rfl⟩ := am_fin hres
      exact am_lret cx dX11_area_37
    · have hres := am_ifn h hres
      refine am_sub cx [2] rfl ?_
      exact sn11_area_b20 cx  hres
set_option maxRecDepth 20000 in
theorem mt11_area {l : Launch} {v : Int64} {M M' : am_Mem} {r0 : Nat} {x1 : Int32} (h : fn11_area M r0 x1 = some (v, M')) : am_Met l yX11_area cX11_area 3 (some .long) rm11_area 0 0 [.inr (.inr r0), .inl x1] M (some (.inr (.inl v))) M' := am_mk (by decide) (Nat.le_of_ble_eq_true rfl) (fun G cx => (sn11_area_b0 cx h))
-- SquareCuts.least
def fn11_least_b20 (N : Nat)  (r2 : Nat) (M : am_Mem) : Option (Int32 × am_Mem) :=
  am_bd (fn11_refusalFor M r2) (fun v1 M2 => some (v1, M2))
def fn11_least_b0 (N : Nat)  (r0 : Nat) (x1 : Int32) (M : am_Mem) : Option (Int32 × am_Mem) :=
  am_ck (am_k M r0 11) (am_ck (am_k M (am_R M r0 8) 9) (am_bd (fn9_find M (am_R M r0 8) x1) (fun v3 M4 => if v3 = 0 then fn11_least_b20 N  v3 M4 else am_ck (am_k M4 v3 10) (if (am_I M4 v3 1) = 0 then am_bd (fn10_firstSmallest N M4 v3) (fun v7 M8 => some (v7, M8)) else fn11_least_b20 N  v3 M4))))
def fn11_least (N : Nat) (M : am_Mem) (r0 : Nat) (x1 : Int32) : Option (Int32 × am_Mem) := fn11_least_b0 N r0 x1 M
def rm11_least : Room := { frames := 1, cells := 0, slots := 0, locals := 22 }
set_option maxRecDepth 20000 in
theorem sn11_least_b20 {l : Launch} {G : am_G} {v : Int32} {M' : am_Mem} {N : Nat}  (cx : am_Ctx l rm11_least yX11_least cX11_least 3 (some .int) (some (.inl v)) M' 0 0 G)  {r2 : Nat} {M : am_Mem} (hres : fn11_least_b20 N  r2 M = some (v, M')) : G 20 [(2, .inr (.inr r2))] [] M 0 0 := by
  unfold fn11_least_b20 at hres
  refine am_aload_n cx 0 dX11_least_20 rfl ?_
  obtain ⟨v1, M2, q3, hres⟩ := am_bd_some hres
  refine am_callS1 cx [.inr (.inr r2)] dX11_least_21 csX11_169 (mt11_refusalFor q3)  ⟨rfl, rfl, Nat.le_of_ble_eq_true rfl, Nat.le_of_ble_eq_true rfl⟩ rfl (Nat.le_of_ble_eq_true rfl) ⟨Nat.le_of_ble_eq_true rfl, Nat.le_of_ble_eq_true rfl⟩ ?_
  obtain ⟨rfl, rfl⟩ := am_fin hres
  exact am_iret cx dX11_least_24
set_option maxRecDepth 20000 in
theorem sn11_least_b0 {l : Launch} {G : am_G} {v : Int32} {M' : am_Mem} {N : Nat}  (cx : am_Ctx l rm11_least yX11_least cX11_least 3 (some .int) (some (.inl v)) M' 0 0 G)  {r0 : Nat} {x1 : Int32} {M : am_Mem} (hres : fn11_least_b0 N  r0 x1 M = some (v, M')) : G 0 [(0, .inr (.inr r0)), (1, .inl x1)] [] M 0 0 := by
  unfold fn11_least_b0 at hres
  refine am_aload_n cx 0 dX11_least_0 rfl ?_
  obtain ⟨q1, hres⟩ := am_ck_some hres
  refine am_getR cx dX11_least_1 flX11_66 (am_ke q1) ?_
  refine am_iload_n cx 1 dX11_least_4 rfl ?_
  obtain ⟨q2, hres⟩ := am_ck_some hres
  obtain ⟨v3, M4, q5, hres⟩ := am_bd_some hres
  refine am_callV1 cx [.inl x1] dX11_least_5 cvX11_115 (mt9_find q5) (am_ke q2) ⟨rfl, rfl, Nat.le_of_ble_eq_true rfl, Nat.le_of_ble_eq_true rfl⟩ rfl (Nat.le_of_ble_eq_true rfl) ⟨Nat.le_of_ble_eq_true rfl, Nat.le_of_ble_eq_true rfl⟩ ?_
  refine am_astore_n cx (lv' := [(0, .inr (.inr r0)), (1, .inl x1), (2, .inr (.inr v3))]) dX11_least_8 (Nat.le_of_ble_eq_true rfl) rfl ?_
  refine am_aload_n cx 2 dX11_least_9 rfl ?_
  refine am_ifnull cx (tgt := 20) dX11_least_10 (by decide) (fun h => ?_) (fun h => ?_)
  · have hres := am_ifp h hres
    refine am_sub cx [2] rfl ?_
    exact sn11_least_b20 cx  hres
  · have hres := am_ifn h hres
    refine am_aload_n cx 2 dX11_least_13 rfl ?_
    obtain ⟨q6, hres⟩ := am_ck_some hres
    refine am_getI cx dX11_least_14 flX11_123 (am_ke q6) ?_
    refine am_if_eq cx (tgt := 25) dX11_least_17 (by decide) (fun h => ?_) (fun h => ?_)
    · have hres := am_ifp h hres
      refine am_aload_n cx 2 dX11_least_25 rfl ?_
      obtain ⟨v7, M8, q9, hres⟩ := am_bd_some hres
      refine am_callV1 cx [] dX11_least_26 cvX11_173 (mt10_firstSmallest q9) (am_ke q6) ⟨rfl, rfl, Nat.le_of_ble_eq_true rfl, Nat.le_of_ble_eq_true rfl⟩ rfl (Nat.le_of_ble_eq_true rfl) ⟨Nat.le_of_ble_eq_true rfl, Nat.le_of_ble_eq_true rfl⟩ ?_
      obtain ⟨rfl, rfl⟩ := am_fin hres
      exact am_iret cx dX11_least_29
    · have hres := am_ifn h hres
      refine am_sub cx [2] rfl ?_
      exact sn11_least_b20 cx  hres
set_option maxRecDepth 20000 in
theorem mt11_least {l : Launch} {v : Int32} {M M' : am_Mem} {N : Nat} {r0 : Nat} {x1 : Int32} (h : fn11_least N M r0 x1 = some (v, M')) : am_Met l yX11_least cX11_least 3 (some .int) rm11_least 0 0 [.inr (.inr r0), .inl x1] M (some (.inl v)) M' := am_mk (by decide) (Nat.le_of_ble_eq_true rfl) (fun G cx => (sn11_least_b0 cx h))
-- SquareCuts.groups
def fn11_groups_b20 (N : Nat)  (r2 : Nat) (M : am_Mem) : Option (Int32 × am_Mem) :=
  am_bd (fn11_refusalFor M r2) (fun v1 M2 => some (v1, M2))
def fn11_groups_b0 (N : Nat)  (r0 : Nat) (x1 : Int32) (M : am_Mem) : Option (Int32 × am_Mem) :=
  am_ck (am_k M r0 11) (am_ck (am_k M (am_R M r0 8) 9) (am_bd (fn9_find M (am_R M r0 8) x1) (fun v3 M4 => if v3 = 0 then fn11_groups_b20 N  v3 M4 else am_ck (am_k M4 v3 10) (if (am_I M4 v3 1) = 0 then am_bd (fn10_codeGroups N M4 v3) (fun v7 M8 => some (v7, M8)) else fn11_groups_b20 N  v3 M4))))
def fn11_groups (N : Nat) (M : am_Mem) (r0 : Nat) (x1 : Int32) : Option (Int32 × am_Mem) := fn11_groups_b0 N r0 x1 M
def rm11_groups : Room := { frames := 3, cells := 0, slots := 0, locals := 64 }
set_option maxRecDepth 20000 in
theorem sn11_groups_b20 {l : Launch} {G : am_G} {v : Int32} {M' : am_Mem} {N : Nat}  (cx : am_Ctx l rm11_groups yX11_groups cX11_groups 3 (some .int) (some (.inl v)) M' 0 0 G)  {r2 : Nat} {M : am_Mem} (hres : fn11_groups_b20 N  r2 M = some (v, M')) : G 20 [(2, .inr (.inr r2))] [] M 0 0 := by
  unfold fn11_groups_b20 at hres
  refine am_aload_n cx 0 dX11_groups_20 rfl ?_
  obtain ⟨v1, M2, q3, hres⟩ := am_bd_some hres
  refine am_callS1 cx [.inr (.inr r2)] dX11_groups_21 csX11_169 (mt11_refusalFor q3)  ⟨rfl, rfl, Nat.le_of_ble_eq_true rfl, Nat.le_of_ble_eq_true rfl⟩ rfl (Nat.le_of_ble_eq_true rfl) ⟨Nat.le_of_ble_eq_true rfl, Nat.le_of_ble_eq_true rfl⟩ ?_
  obtain ⟨rfl, rfl⟩ := am_fin hres
  exact am_iret cx dX11_groups_24
set_option maxRecDepth 20000 in
theorem sn11_groups_b0 {l : Launch} {G : am_G} {v : Int32} {M' : am_Mem} {N : Nat}  (cx : am_Ctx l rm11_groups yX11_groups cX11_groups 3 (some .int) (some (.inl v)) M' 0 0 G)  {r0 : Nat} {x1 : Int32} {M : am_Mem} (hres : fn11_groups_b0 N  r0 x1 M = some (v, M')) : G 0 [(0, .inr (.inr r0)), (1, .inl x1)] [] M 0 0 := by
  unfold fn11_groups_b0 at hres
  refine am_aload_n cx 0 dX11_groups_0 rfl ?_
  obtain ⟨q1, hres⟩ := am_ck_some hres
  refine am_getR cx dX11_groups_1 flX11_66 (am_ke q1) ?_
  refine am_iload_n cx 1 dX11_groups_4 rfl ?_
  obtain ⟨q2, hres⟩ := am_ck_some hres
  obtain ⟨v3, M4, q5, hres⟩ := am_bd_some hres
  refine am_callV1 cx [.inl x1] dX11_groups_5 cvX11_115 (mt9_find q5) (am_ke q2) ⟨rfl, rfl, Nat.le_of_ble_eq_true rfl, Nat.le_of_ble_eq_true rfl⟩ rfl (Nat.le_of_ble_eq_true rfl) ⟨Nat.le_of_ble_eq_true rfl, Nat.le_of_ble_eq_true rfl⟩ ?_
  refine am_astore_n cx (lv' := [(0, .inr (.inr r0)), (1, .inl x1), (2, .inr (.inr v3))]) dX11_groups_8 (Nat.le_of_ble_eq_true rfl) rfl ?_
  refine am_aload_n cx 2 dX11_groups_9 rfl ?_
  refine am_ifnull cx (tgt := 20) dX11_groups_10 (by decide) (fun h => ?_) (fun h => ?_)
  · have hres := am_ifp h hres
    refine am_sub cx [2] rfl ?_
    exact sn11_groups_b20 cx  hres
  · have hres := am_ifn h hres
    refine am_aload_n cx 2 dX11_groups_13 rfl ?_
    obtain ⟨q6, hres⟩ := am_ck_some hres
    refine am_getI cx dX11_groups_14 flX11_123 (am_ke q6) ?_
    refine am_if_eq cx (tgt := 25) dX11_groups_17 (by decide) (fun h => ?_) (fun h => ?_)
    · have hres := am_ifp h hres
      refine am_aload_n cx 2 dX11_groups_25 rfl ?_
      obtain ⟨v7, M8, q9, hres⟩ := am_bd_some hres
      refine am_callV1 cx [] dX11_groups_26 cvX11_186 (mt10_codeGroups q9) (am_ke q6) ⟨rfl, rfl, Nat.le_of_ble_eq_true rfl, Nat.le_of_ble_eq_true rfl⟩ rfl (Nat.le_of_ble_eq_true rfl) ⟨Nat.le_of_ble_eq_true rfl, Nat.le_of_ble_eq_true rfl⟩ ?_
      obtain ⟨rfl, rfl⟩ := am_fin hres
      exact am_iret cx dX11_groups_29
    · have hres := am_ifn h hres
      refine am_sub cx [2] rfl ?_
      exact sn11_groups_b20 cx  hres
set_option maxRecDepth 20000 in
theorem mt11_groups {l : Launch} {v : Int32} {M M' : am_Mem} {N : Nat} {r0 : Nat} {x1 : Int32} (h : fn11_groups N M r0 x1 = some (v, M')) : am_Met l yX11_groups cX11_groups 3 (some .int) rm11_groups 0 0 [.inr (.inr r0), .inl x1] M (some (.inl v)) M' := am_mk (by decide) (Nat.le_of_ble_eq_true rfl) (fun G cx => (sn11_groups_b0 cx h))
-- SquareCuts.current
def fn11_current_b33  (a0 : Int32) (M : am_Mem) : Option (Int32 × am_Mem) :=
  some (a0, M)
def fn11_current_b22   (M : am_Mem) : Option (Int32 × am_Mem) :=
  fn11_current_b33  (-2147483648 : Int32) M
def fn11_current_b0  (r0 : Nat) (x1 : Int32) (x2 : Int32) (M : am_Mem) : Option (Int32 × am_Mem) :=
  am_ck (am_k M r0 11) (am_bd (fn11_flowingNet M r0 x1) (fun v2 M3 => if v2 = 0 then fn11_current_b22   M3 else if x2 < 0 then fn11_current_b22   M3 else am_ck (am_k M3 v2 3) (if x2 < (am_I M3 v2 1) then am_ck (am_k M3 (am_R M3 v2 3) 14) (am_ck (am_in x2 (am_L M3 (am_R M3 v2 3))) (fn11_current_b33  (am_I M3 (am_R M3 v2 3) x2.toNatClampNeg) M3)) else fn11_current_b22   M3)))
def fn11_current (M : am_Mem) (r0 : Nat) (x1 : Int32) (x2 : Int32) : Option (Int32 × am_Mem) := fn11_current_b0  r0 x1 x2 M
def rm11_current : Room := { frames := 2, cells := 0, slots := 0, locals := 43 }
set_option maxRecDepth 20000 in
theorem sn11_current_b33 {l : Launch} {G : am_G} {v : Int32} {M' : am_Mem}  (cx : am_Ctx l rm11_current yX11_current cX11_current 4 (some .int) (some (.inl v)) M' 0 0 G)  {a0 : Int32} {M : am_Mem} (hres : fn11_current_b33  a0 M = some (v, M')) : G 33 [] [.inl a0] M 0 0 := by
  unfold fn11_current_b33 at hres
  obtain ⟨rfl, rfl⟩ := am_fin hres
  exact am_iret cx dX11_current_33
set_option maxRecDepth 20000 in
theorem sn11_current_b22 {l : Launch} {G : am_G} {v : Int32} {M' : am_Mem}  (cx : am_Ctx l rm11_current yX11_current cX11_current 4 (some .int) (some (.inl v)) M' 0 0 G)   {M : am_Mem} (hres : fn11_current_b22   M = some (v, M')) : G 22 [] [] M 0 0 := by
  unfold fn11_current_b22 at hres
  refine am_ldc cx dX11_current_22 aw_4_6 ?_
  refine am_goto cx (tgt := 33) dX11_current_24 (by decide) ?_
  exact sn11_current_b33 cx  hres
set_option maxRecDepth 20000 in
theorem sn11_current_b0 {l : Launch} {G : am_G} {v : Int32} {M' : am_Mem}  (cx : am_Ctx l rm11_current yX11_current cX11_current 4 (some .int) (some (.inl v)) M' 0 0 G)  {r0 : Nat} {x1 : Int32} {x2 : Int32} {M : am_Mem} (hres : fn11_current_b0  r0 x1 x2 M = some (v, M')) : G 0 [(0, .inr (.inr r0)), (1, .inl x1), (2, .inl x2)] [] M 0 0 := by
  unfold fn11_current_b0 at hres
  refine am_aload_n cx 0 dX11_current_0 rfl ?_
  refine am_iload_n cx 1 dX11_current_1 rfl ?_
  obtain ⟨q1, hres⟩ := am_ck_some hres
  obtain ⟨v2, M3, q4, hres⟩ := am_bd_some hres
  refine am_callV1 cx [.inl x1] dX11_current_2 cvX11_203 (mt11_flowingNet q4) (am_ke q1) ⟨rfl, rfl, Nat.le_of_ble_eq_true rfl, Nat.le_of_ble_eq_true rfl⟩ rfl (Nat.le_of_ble_eq_true rfl) ⟨Nat.le_of_ble_eq_true rfl, Nat.le_of_ble_eq_true rfl⟩ ?_
  refine am_astore_n cx (lv' := [(0, .inr (.inr r0)), (1, .inl x1), (2, .inl x2), (3, .inr (.inr v2))]) dX11_current_5 (Nat.le_of_ble_eq_true rfl) rfl ?_
  refine am_aload_n cx 3 dX11_current_6 rfl ?_
  refine am_ifnull cx (tgt := 22) dX11_current_7 (by decide) (fun h => ?_) (fun h => ?_)
  · have hres := am_ifp h hres
    refine am_sub cx [] rfl ?_
    exact sn11_current_b22 cx  hres
  · have hres := am_ifn h hres
    refine am_iload_n cx 2 dX11_current_10 rfl ?_
    refine am_if_lt cx (tgt := 22) dX11_current_11 (by decide) (fun h => ?_) (fun h => ?_)
    · have hres := am_ifp h hres
      refine am_sub cx [] rfl ?_
      exact sn11_current_b22 cx  hres
    · have hres := am_ifn h hres
      refine am_iload_n cx 2 dX11_current_14 rfl ?_
      refine am_aload_n cx 3 dX11_current_15 rfl ?_
      obtain ⟨q5, hres⟩ := am_ck_some hres
      refine am_getI cx dX11_current_16 flX11_207 (am_ke q5) ?_
      refine am_icmp_lt cx (tgt := 27) dX11_current_19 (by decide) (fun h => ?_) (fun h => ?_)
      · have hres := am_ifp h hres
        refine am_aload_n cx 3 dX11_current_27 rfl ?_
        refine am_getR cx dX11_current_28 flX11_211 (am_ke q5) ?_
        refine am_iload_n cx 2 dX11_current_31 rfl ?_
        obtain ⟨q6, hres⟩ := am_ck_some hres
        obtain ⟨q7, hres⟩ := am_ck_some hres
        refine am_iald cx dX11_current_32 (am_ke q6) q7 ?_
        refine am_sub cx [] rfl ?_
        exact sn11_current_b33 cx  hres
      · have hres := am_ifn h hres
        refine am_sub cx [] rfl ?_
        exact sn11_current_b22 cx  hres
set_option maxRecDepth 20000 in
theorem mt11_current {l : Launch} {v : Int32} {M M' : am_Mem} {r0 : Nat} {x1 : Int32} {x2 : Int32} (h : fn11_current M r0 x1 x2 = some (v, M')) : am_Met l yX11_current cX11_current 4 (some .int) rm11_current 0 0 [.inr (.inr r0), .inl x1, .inl x2] M (some (.inl v)) M' := am_mk (by decide) (Nat.le_of_ble_eq_true rfl) (fun G cx => (sn11_current_b0 cx h))
-- SquareCuts.level
def fn11_level_b33  (a0 : Int32) (M : am_Mem) : Option (Int32 × am_Mem) :=
  some (a0, M)
def fn11_level_b22   (M : am_Mem) : Option (Int32 × am_Mem) :=
  fn11_level_b33  (-2147483648 : Int32) M
def fn11_level_b0  (r0 : Nat) (x1 : Int32) (x2 : Int32) (M : am_Mem) : Option (Int32 × am_Mem) :=
  am_ck (am_k M r0 11) (am_bd (fn11_flowingNet M r0 x1) (fun v2 M3 => if v2 = 0 then fn11_level_b22   M3 else if x2 < 0 then fn11_level_b22   M3 else am_ck (am_k M3 v2 3) (if x2 < (am_I M3 v2 0) then am_ck (am_k M3 (am_R M3 v2 2) 14) (am_ck (am_in x2 (am_L M3 (am_R M3 v2 2))) (fn11_level_b33  (am_I M3 (am_R M3 v2 2) x2.toNatClampNeg) M3)) else fn11_level_b22   M3)))
def fn11_level (M : am_Mem) (r0 : Nat) (x1 : Int32) (x2 : Int32) : Option (Int32 × am_Mem) := fn11_level_b0  r0 x1 x2 M
def rm11_level : Room := { frames := 2, cells := 0, slots := 0, locals := 43 }
set_option maxRecDepth 20000 in
theorem sn11_level_b33 {l : Launch} {G : am_G} {v : Int32} {M' : am_Mem}  (cx : am_Ctx l rm11_level yX11_level cX11_level 4 (some .int) (some (.inl v)) M' 0 0 G)  {a0 : Int32} {M : am_Mem} (hres : fn11_level_b33  a0 M = some (v, M')) : G 33 [] [.inl a0] M 0 0 := by
  unfold fn11_level_b33 at hres
  obtain ⟨rfl, rfl⟩ := am_fin hres
  exact am_iret cx dX11_level_33
set_option maxRecDepth 20000 in
theorem sn11_level_b22 {l : Launch} {G : am_G} {v : Int32} {M' : am_Mem}  (cx : am_Ctx l rm11_level yX11_level cX11_level 4 (some .int) (some (.inl v)) M' 0 0 G)   {M : am_Mem} (hres : fn11_level_b22   M = some (v, M')) : G 22 [] [] M 0 0 := by
  unfold fn11_level_b22 at hres
  refine am_ldc cx dX11_level_22 aw_4_6 ?_
  refine am_goto cx (tgt := 33) dX11_level_24 (by decide) ?_
  exact sn11_level_b33 cx  hres
set_option maxRecDepth 20000 in
theorem sn11_level_b0 {l : Launch} {G : am_G} {v : Int32} {M' : am_Mem}  (cx : am_Ctx l rm11_level yX11_level cX11_level 4 (some .int) (some (.inl v)) M' 0 0 G)  {r0 : Nat} {x1 : Int32} {x2 : Int32} {M : am_Mem} (hres : fn11_level_b0  r0 x1 x2 M = some (v, M')) : G 0 [(0, .inr (.inr r0)), (1, .inl x1), (2, .inl x2)] [] M 0 0 := by
  unfold fn11_level_b0 at hres
  refine am_aload_n cx 0 dX11_level_0 rfl ?_
  refine am_iload_n cx 1 dX11_level_1 rfl ?_
  obtain ⟨q1, hres⟩ := am_ck_some hres
  obtain ⟨v2, M3, q4, hres⟩ := am_bd_some hres
  refine am_callV1 cx [.inl x1] dX11_level_2 cvX11_203 (mt11_flowingNet q4) (am_ke q1) ⟨rfl, rfl, Nat.le_of_ble_eq_true rfl, Nat.le_of_ble_eq_true rfl⟩ rfl (Nat.le_of_ble_eq_true rfl) ⟨Nat.le_of_ble_eq_true rfl, Nat.le_of_ble_eq_true rfl⟩ ?_
  refine am_astore_n cx (lv' := [(0, .inr (.inr r0)), (1, .inl x1), (2, .inl x2), (3, .inr (.inr v2))]) dX11_level_5 (Nat.le_of_ble_eq_true rfl) rfl ?_
  refine am_aload_n cx 3 dX11_level_6 rfl ?_
  refine am_ifnull cx (tgt := 22) dX11_level_7 (by decide) (fun h => ?_) (fun h => ?_)
  · have hres := am_ifp h hres
    refine am_sub cx [] rfl ?_
    exact sn11_level_b22 cx  hres
  · have hres := am_ifn h hres
    refine am_iload_n cx 2 dX11_level_10 rfl ?_
    refine am_if_lt cx (tgt := 22) dX11_level_11 (by decide) (fun h => ?_) (fun h => ?_)
    · have hres := am_ifp h hres
      refine am_sub cx [] rfl ?_
      exact sn11_level_b22 cx  hres
    · have hres := am_ifn h hres
      refine am_iload_n cx 2 dX11_level_14 rfl ?_
      refine am_aload_n cx 3 dX11_level_15 rfl ?_
      obtain ⟨q5, hres⟩ := am_ck_some hres
      refine am_getI cx dX11_level_16 flX11_214 (am_ke q5) ?_
      refine am_icmp_lt cx (tgt := 27) dX11_level_19 (by decide) (fun h => ?_) (fun h => ?_)
      · have hres := am_ifp h hres
        refine am_aload_n cx 3 dX11_level_27 rfl ?_
        refine am_getR cx dX11_level_28 flX11_217 (am_ke q5) ?_
        refine am_iload_n cx 2 dX11_level_31 rfl ?_
        obtain ⟨q6, hres⟩ := am_ck_some hres
        obtain ⟨q7, hres⟩ := am_ck_some hres
        refine am_iald cx dX11_level_32 (am_ke q6) q7 ?_
        refine am_sub cx [] rfl ?_
        exact sn11_level_b33 cx  hres
      · have hres := am_ifn h hres
        refine am_sub cx [] rfl ?_
        exact sn11_level_b22 cx  hres
set_option maxRecDepth 20000 in
theorem mt11_level {l : Launch} {v : Int32} {M M' : am_Mem} {r0 : Nat} {x1 : Int32} {x2 : Int32} (h : fn11_level M r0 x1 x2 = some (v, M')) : am_Met l yX11_level cX11_level 4 (some .int) rm11_level 0 0 [.inr (.inr r0), .inl x1, .inl x2] M (some (.inl v)) M' := am_mk (by decide) (Nat.le_of_ble_eq_true rfl) (fun G cx => (sn11_level_b0 cx h))
-- SquareCuts.count
def fn11_count_b0 (N : Nat)  (r0 : Nat) (x1 : Int32) (M : am_Mem) : Option (Int32 × am_Mem) :=
  if x1 = (0 : Int32) then (am_ck (am_k M r0 11) (am_ck (am_k M (am_R M r0 8) 9) (some ((am_I M (am_R M r0 8) 1), M)))) else (if x1 = (1 : Int32) then (am_ck (am_k M r0 11) (am_ck (am_k M (am_R M r0 8) 9) (am_bd (fn9_failing N M (am_R M r0 8)) (fun v7 M8 => some (v7, M8))))) else (if x1 = (2 : Int32) then (am_ck (am_k M r0 11) (am_ck (am_k M (am_R M r0 8) 9) (am_bd (fn9_perfectOnes N M (am_R M r0 8)) (fun v13 M14 => some (v13, M14))))) else (if x1 = (3 : Int32) then (am_ck (am_k M r0 11) (some ((am_I M r0 11), M))) else (if x1 = (4 : Int32) then (am_ck (am_k M r0 11) (am_ck (am_k M (am_R M r0 0) 8) (some ((am_I M (am_R M r0 0) 7), M)))) else (if x1 = (5 : Int32) then (am_ck (am_k M r0 11) (am_ck (am_k M (am_R M r0 7) 7) (some ((am_I M (am_R M r0 7) 1), M)))) else (some ((-1 : Int32), M)))))))
def fn11_count (N : Nat) (M : am_Mem) (r0 : Nat) (x1 : Int32) : Option (Int32 × am_Mem) := fn11_count_b0 N r0 x1 M
def rm11_count : Room := { frames := 2, cells := 0, slots := 0, locals := 45 }
set_option maxRecDepth 20000 in
theorem sn11_count_b0 {l : Launch} {G : am_G} {v : Int32} {M' : am_Mem} {N : Nat}  (cx : am_Ctx l rm11_count yX11_count cX11_count 2 (some .int) (some (.inl v)) M' 0 0 G)  {r0 : Nat} {x1 : Int32} {M : am_Mem} (hres : fn11_count_b0 N  r0 x1 M = some (v, M')) : G 0 [(0, .inr (.inr r0)), (1, .inl x1)] [] M 0 0 := by
  unfold fn11_count_b0 at hres
  refine am_iload_n cx 1 dX11_count_0 rfl ?_
  by_cases w1 : x1 = (0 : Int32)
  · refine am_tableIn cx (tgt := 40) (off := 39) dX11_count_1 (by rw [w1]; decide) (by rw [w1]; decide) (by rw [w1]; decide) (by decide) ?_
    have hres := am_ifp w1 hres
    refine am_aload_n cx 0 dX11_count_40 rfl ?_
    obtain ⟨q2, hres⟩ := am_ck_some hres
    refine am_getR cx dX11_count_41 flX11_66 (am_ke q2) ?_
    obtain ⟨q3, hres⟩ := am_ck_some hres
    refine am_getI cx dX11_count_44 flX11_112 (am_ke q3) ?_
    obtain ⟨rfl, rfl⟩ := am_fin hres
    exact am_iret cx dX11_count_47
  have hres := am_ifn w1 hres
  by_cases w4 : x1 = (1 : Int32)
  · refine am_tableIn cx (tgt := 48) (off := 47) dX11_count_1 (by rw [w4]; decide) (by rw [w4]; decide) (by rw [w4]; decide) (by decide) ?_
    have hres := am_ifp w4 hres
    refine am_aload_n cx 0 dX11_count_48 rfl ?_
    obtain ⟨q5, hres⟩ := am_ck_some hres
    refine am_getR cx dX11_count_49 flX11_66 (am_ke q5) ?_
    obtain ⟨q6, hres⟩ := am_ck_some hres
    obtain ⟨v7, M8, q9, hres⟩ := am_bd_some hres
    refine am_callV1 cx [] dX11_count_52 cvX11_298 (mt9_failing q9) (am_ke q6) ⟨rfl, rfl, Nat.le_of_ble_eq_true rfl, Nat.le_of_ble_eq_true rfl⟩ rfl (Nat.le_of_ble_eq_true rfl) ⟨Nat.le_of_ble_eq_true rfl, Nat.le_of_ble_eq_true rfl⟩ ?_
    obtain ⟨rfl, rfl⟩ := am_fin hres
    exact am_iret cx dX11_count_55
  have hres := am_ifn w4 hres
  by_cases w10 : x1 = (2 : Int32)
  · refine am_tableIn cx (tgt := 56) (off := 55) dX11_count_1 (by rw [w10]; decide) (by rw [w10]; decide) (by rw [w10]; decide) (by decide) ?_
    have hres := am_ifp w10 hres
    refine am_aload_n cx 0 dX11_count_56 rfl ?_
    obtain ⟨q11, hres⟩ := am_ck_some hres
    refine am_getR cx dX11_count_57 flX11_66 (am_ke q11) ?_
    obtain ⟨q12, hres⟩ := am_ck_some hres
    obtain ⟨v13, M14, q15, hres⟩ := am_bd_some hres
    refine am_callV1 cx [] dX11_count_60 cvX11_301 (mt9_perfectOnes q15) (am_ke q12) ⟨rfl, rfl, Nat.le_of_ble_eq_true rfl, Nat.le_of_ble_eq_true rfl⟩ rfl (Nat.le_of_ble_eq_true rfl) ⟨Nat.le_of_ble_eq_true rfl, Nat.le_of_ble_eq_true rfl⟩ ?_
    obtain ⟨rfl, rfl⟩ := am_fin hres
    exact am_iret cx dX11_count_63
  have hres := am_ifn w10 hres
  by_cases w16 : x1 = (3 : Int32)
  · refine am_tableIn cx (tgt := 64) (off := 63) dX11_count_1 (by rw [w16]; decide) (by rw [w16]; decide) (by rw [w16]; decide) (by decide) ?_
    have hres := am_ifp w16 hres
    refine am_aload_n cx 0 dX11_count_64 rfl ?_
    obtain ⟨q17, hres⟩ := am_ck_some hres
    refine am_getI cx dX11_count_65 flX11_91 (am_ke q17) ?_
    obtain ⟨rfl, rfl⟩ := am_fin hres
    exact am_iret cx dX11_count_68
  have hres := am_ifn w16 hres
  by_cases w18 : x1 = (4 : Int32)
  · refine am_tableIn cx (tgt := 69) (off := 68) dX11_count_1 (by rw [w18]; decide) (by rw [w18]; decide) (by rw [w18]; decide) (by decide) ?_
    have hres := am_ifp w18 hres
    refine am_aload_n cx 0 dX11_count_69 rfl ?_
    obtain ⟨q19, hres⟩ := am_ck_some hres
    refine am_getR cx dX11_count_70 flX11_12 (am_ke q19) ?_
    obtain ⟨q20, hres⟩ := am_ck_some hres
    refine am_getI cx dX11_count_73 flX11_76 (am_ke q20) ?_
    obtain ⟨rfl, rfl⟩ := am_fin hres
    exact am_iret cx dX11_count_76
  have hres := am_ifn w18 hres
  by_cases w21 : x1 = (5 : Int32)
  · refine am_tableIn cx (tgt := 77) (off := 76) dX11_count_1 (by rw [w21]; decide) (by rw [w21]; decide) (by rw [w21]; decide) (by decide) ?_
    have hres := am_ifp w21 hres
    refine am_aload_n cx 0 dX11_count_77 rfl ?_
    obtain ⟨q22, hres⟩ := am_ck_some hres
    refine am_getR cx dX11_count_78 flX11_59 (am_ke q22) ?_
    obtain ⟨q23, hres⟩ := am_ck_some hres
    refine am_getI cx dX11_count_81 flX11_179 (am_ke q23) ?_
    obtain ⟨rfl, rfl⟩ := am_fin hres
    exact am_iret cx dX11_count_84
  have hres := am_ifn w21 hres
  refine am_tableOut cx (tgt := 85) dX11_count_1 (am_sw (fun cq h1 h2 => ?_)) (by decide) ?_
  · rcases (show cq = 0 ∨ cq = 1 ∨ cq = 2 ∨ cq = 3 ∨ cq = 4 ∨ cq = 5 by omega) with rfl | rfl | rfl | rfl | rfl | rfl
    · exact w1
    · exact w4
    · exact w10
    · exact w16
    · exact w18
    · exact w21
  skip
  refine am_iconst cx (v := (-1 : Int32)) dX11_count_85 (by decide) ?_
  obtain ⟨rfl, rfl⟩ := am_fin hres
  exact am_iret cx dX11_count_86
set_option maxRecDepth 20000 in
theorem mt11_count {l : Launch} {v : Int32} {M M' : am_Mem} {N : Nat} {r0 : Nat} {x1 : Int32} (h : fn11_count N M r0 x1 = some (v, M')) : am_Met l yX11_count cX11_count 2 (some .int) rm11_count 0 0 [.inr (.inr r0), .inl x1] M (some (.inl v)) M' := am_mk (by decide) (Nat.le_of_ble_eq_true rfl) (fun G cx => (sn11_count_b0 cx h))
-- SquareCuts.putMade
def fn11_putMade_b38 (N : Nat)  (r0 : Nat) (M : am_Mem) : Option (Int32 × am_Mem) :=
  am_ck (am_k M r0 11) (am_ck (am_k M (am_R M r0 8) 9) (some (((am_I M (am_R M r0 8) 1) - (1 : Int32)), M)))
def fn11_putMade_b0 (N : Nat)  (r0 : Nat) (M : am_Mem) : Option (Int32 × am_Mem) :=
  am_ck (am_k M r0 11) (am_ck (am_k M (am_R M r0 4) 0) (am_bd (fn0_sortAsCode N M (am_R M r0 4)) (fun v3 M4 => am_ck (am_k M4 r0 11) (am_ck (am_k (am_new M4 10 0) r0 11) (am_ck (am_k (am_new M4 10 0) (am_n M4 + 1) 10) (am_bd (fn10_init N (am_new M4 10 0) (am_n M4 + 1) (2 : Int32) (am_R (am_new M4 10 0) r0 4) (0 : Int32) 0) (fun v9 M10 => am_ck (am_k M10 (am_R M4 r0 8) 9) (am_bd (fn9_put M10 (am_R M4 r0 8) (am_n M4 + 1)) (fun v13 M14 => am_ck (am_k M14 r0 11) (fn11_putMade_b38 N  r0 (am_wI M14 r0 11 ((am_I M14 r0 11) + (1 : Int32)))))))))))))
def fn11_putMade (N : Nat) (M : am_Mem) (r0 : Nat) : Option (Int32 × am_Mem) := fn11_putMade_b0 N r0 M
def rm11_putMade : Room := { frames := 2, cells := 4, slots := 131, locals := 48 }
set_option maxRecDepth 20000 in
theorem sn11_putMade_b38 {l : Launch} {G : am_G} {v : Int32} {M' : am_Mem} {N : Nat}  (cx : am_Ctx l rm11_putMade yX11_putMade cX11_putMade 1 (some .int) (some (.inl v)) M' 4 131 G)  {r0 : Nat} {M : am_Mem} (hres : fn11_putMade_b38 N  r0 M = some (v, M')) : G 38 [(0, .inr (.inr r0))] [] M 4 131 := by
  unfold fn11_putMade_b38 at hres
  refine am_aload_n cx 0 dX11_putMade_38 rfl ?_
  obtain ⟨q1, hres⟩ := am_ck_some hres
  refine am_getR cx dX11_putMade_39 flX11_66 (am_ke q1) ?_
  obtain ⟨q2, hres⟩ := am_ck_some hres
  refine am_getI cx dX11_putMade_42 flX11_112 (am_ke q2) ?_
  refine am_iconst cx (v := (1 : Int32)) dX11_putMade_45 (by decide) ?_
  refine am_isub cx dX11_putMade_46 ?_
  obtain ⟨rfl, rfl⟩ := am_fin hres
  exact am_iret cx dX11_putMade_47
set_option maxRecDepth 20000 in
theorem sn11_putMade_b0 {l : Launch} {G : am_G} {v : Int32} {M' : am_Mem} {N : Nat}  (cx : am_Ctx l rm11_putMade yX11_putMade cX11_putMade 1 (some .int) (some (.inl v)) M' 4 131 G)  {r0 : Nat} {M : am_Mem} (hres : fn11_putMade_b0 N  r0 M = some (v, M')) : G 0 [(0, .inr (.inr r0))] [] M 0 0 := by
  unfold fn11_putMade_b0 at hres
  refine am_aload_n cx 0 dX11_putMade_0 rfl ?_
  obtain ⟨q1, hres⟩ := am_ck_some hres
  refine am_getR cx dX11_putMade_1 flX11_42 (am_ke q1) ?_
  obtain ⟨q2, hres⟩ := am_ck_some hres
  obtain ⟨v3, M4, q5, hres⟩ := am_bd_some hres
  refine am_callV0 cx [] dX11_putMade_4 cvX11_335 (mt0_sortAsCode q5) (am_ke q2) ⟨rfl, rfl, Nat.le_of_ble_eq_true rfl, Nat.le_of_ble_eq_true rfl⟩ rfl (Nat.le_of_ble_eq_true rfl) ⟨Nat.le_of_ble_eq_true rfl, Nat.le_of_ble_eq_true rfl⟩ ?_
  refine am_aload_n cx 0 dX11_putMade_7 rfl ?_
  obtain ⟨q6, hres⟩ := am_ck_some hres
  refine am_getR cx dX11_putMade_8 flX11_66 (am_ke q6) ?_
  refine am_newO cx dX11_putMade_11 nwX11_119 (Nat.le_of_ble_eq_true rfl) (Nat.le_of_ble_eq_true rfl) ?_
  refine am_dup cx dX11_putMade_14 rfl ?_
  refine am_iconst cx (v := (2 : Int32)) dX11_putMade_15 (by decide) ?_
  refine am_aload_n cx 0 dX11_putMade_16 rfl ?_
  obtain ⟨q7, hres⟩ := am_ck_some hres
  refine am_getR cx dX11_putMade_17 flX11_42 (am_ke q7) ?_
  refine am_iconst cx (v := (0 : Int32)) dX11_putMade_20 (by decide) ?_
  refine am_null cx dX11_putMade_21 ?_
  obtain ⟨q8, hres⟩ := am_ck_some hres
  obtain ⟨v9, M10, q11, hres⟩ := am_bd_some hres
  refine am_callI0 cx [.inl (2 : Int32), .inr (.inr (am_R (am_new M4 10 0) r0 4)), .inl (0 : Int32), .inr (.inr 0)] dX11_putMade_22 ciX11_321 (mt10_init q11) (by rw [show am_K _ _ = 10 from (am_ke q8)]; decide) ⟨rfl, rfl, Nat.le_of_ble_eq_true rfl, Nat.le_of_ble_eq_true rfl⟩ rfl (Nat.le_of_ble_eq_true rfl) ⟨Nat.le_of_ble_eq_true rfl, Nat.le_of_ble_eq_true rfl⟩ ?_
  obtain ⟨q12, hres⟩ := am_ck_some hres
  obtain ⟨v13, M14, q15, hres⟩ := am_bd_some hres
  refine am_callV0 cx [.inr (.inr (am_n M4 + 1))] dX11_putMade_25 cvX11_108 (mt9_put q15) (am_ke q12) ⟨rfl, rfl, Nat.le_of_ble_eq_true rfl, Nat.le_of_ble_eq_true rfl⟩ rfl (Nat.le_of_ble_eq_true rfl) ⟨Nat.le_of_ble_eq_true rfl, Nat.le_of_ble_eq_true rfl⟩ ?_
  refine am_aload_n cx 0 dX11_putMade_28 rfl ?_
  refine am_dup cx dX11_putMade_29 rfl ?_
  obtain ⟨q16, hres⟩ := am_ck_some hres
  refine am_getI cx dX11_putMade_30 flX11_91 (am_ke q16) ?_
  refine am_iconst cx (v := (1 : Int32)) dX11_putMade_33 (by decide) ?_
  refine am_iadd cx dX11_putMade_34 ?_
  refine am_putI cx dX11_putMade_35 fpX11_91 (fun h => by cases h) (am_ke q16) ?_
  exact sn11_putMade_b38 cx  hres
set_option maxRecDepth 20000 in
theorem mt11_putMade {l : Launch} {v : Int32} {M M' : am_Mem} {N : Nat} {r0 : Nat} (h : fn11_putMade N M r0 = some (v, M')) : am_Met l yX11_putMade cX11_putMade 1 (some .int) rm11_putMade 4 131 [.inr (.inr r0)] M (some (.inl v)) M' := am_mk (by decide) (Nat.le_of_ble_eq_true rfl) (fun G cx => (sn11_putMade_b0 cx h))
-- SquareCutsModel.laysMatrix
def fn12_laysMatrix_b158 (N : Nat)  (a0 : Int32) (M : am_Mem) : Option (Int32 × am_Mem) :=
  some (a0, M)
def fn12_laysMatrix_b82 (N : Nat) (k37 : Nat → Int32 → Int32 → Int32 → Int32 → Int32 → am_Mem → Option (Int32 × am_Mem)) (r0 : Nat) (x1 : Int32) (x2 : Int32) (x3 : Int32) (x4 : Int32) (x5 : Int32) (x6 : Int32) (x7 : Int32) (M : am_Mem) : Option (Int32 × am_Mem) :=
  am_ck (am_k M r0 12) (am_bd (fn12_adds M r0 x4 x6 x6 x2 x3 (1 : Int64)) (fun v2 M3 => am_ck (am_k M3 r0 12) (am_bd (fn12_adds M3 r0 x4 x7 x7 x2 x3 (1 : Int64)) (fun v6 M7 => am_ck (am_k M7 r0 12) (am_bd (fn12_adds M7 r0 x4 x6 x7 x2 x3 (-1 : Int64)) (fun v10 M11 => am_ck (am_k M11 r0 12) (am_bd (fn12_adds M11 r0 x4 x7 x6 x2 x3 (-1 : Int64)) (fun v14 M15 => k37 r0 x1 x2 x3 x4 (x5 + (1 : Int32)) M15))))))))
def fn12_laysMatrix_b64 (N : Nat) (k37 : Nat → Int32 → Int32 → Int32 → Int32 → Int32 → am_Mem → Option (Int32 × am_Mem)) (r0 : Nat) (x1 : Int32) (x2 : Int32) (x3 : Int32) (x4 : Int32) (x5 : Int32) (x6 : Int32) (M : am_Mem) : Option (Int32 × am_Mem) :=
  am_ck (am_k M r0 12) (am_ck (am_k M (am_R M r0 26) 14) (am_ck (am_in ((((28 : Int32) * x1) + ((2 : Int32) * x5)) + (1 : Int32)) (am_L M (am_R M r0 26))) (fn12_laysMatrix_b82 N k37 r0 x1 x2 x3 x4 x5 x6 (am_I M (am_R M r0 26) ((((28 : Int32) * x1) + ((2 : Int32) * x5)) + (1 : Int32)).toNatClampNeg) M)))
def fn12_laysMatrix_b37B (N : Nat) (k37 : Nat → Int32 → Int32 → Int32 → Int32 → Int32 → am_Mem → Option (Int32 × am_Mem)) (r0 : Nat) (x1 : Int32) (x2 : Int32) (x3 : Int32) (x4 : Int32) (x5 : Int32) (M : am_Mem) : Option (Int32 × am_Mem) :=
  am_ck (am_k M r0 12) (am_ck (am_k M (am_R M r0 25) 14) (am_ck (am_in x1 (am_L M (am_R M r0 25))) (if (am_I M (am_R M r0 25) x1.toNatClampNeg) ≤ x5 then if x2 = (-1 : Int32) then fn12_laysMatrix_b158 N  x4 M else fn12_laysMatrix_b158 N  (x4 - (1 : Int32)) M else am_ck (am_k M (am_R M r0 26) 14) (am_ck (am_in (((28 : Int32) * x1) + ((2 : Int32) * x5)) (am_L M (am_R M r0 26))) (fn12_laysMatrix_b64 N k37 r0 x1 x2 x3 x4 x5 (am_I M (am_R M r0 26) (((28 : Int32) * x1) + ((2 : Int32) * x5)).toNatClampNeg) M)))))
def fn12_laysMatrix_b37 (N : Nat)  : Nat → Nat → Int32 → Int32 → Int32 → Int32 → Int32 → am_Mem → Option (Int32 × am_Mem)
  | 0 => fun _ _ _ _ _ _ _ => none
  | i + 1 => fn12_laysMatrix_b37B N (fn12_laysMatrix_b37 N  i)
def fn12_laysMatrix_b13B (N : Nat) (k13 : Nat → Int32 → Int32 → Int32 → Int32 → Int32 → am_Mem → Option (Int32 × am_Mem)) (r0 : Nat) (x1 : Int32) (x2 : Int32) (x3 : Int32) (x4 : Int32) (x5 : Int32) (M : am_Mem) : Option (Int32 × am_Mem) :=
  if (64 : Int32) ≤ x5 then fn12_laysMatrix_b37 N  N r0 x1 x2 x3 x4 (0 : Int32) M else am_ck (am_k M r0 12) (am_ck (am_k M (am_R M r0 36) 15) (am_ck (am_in x5 (am_L M (am_R M r0 36))) (k13 r0 x1 x2 x3 x4 (x5 + (1 : Int32)) (am_wJ M (am_R M r0 36) x5.toNatClampNeg (0 : Int64)))))
def fn12_laysMatrix_b13 (N : Nat)  : Nat → Nat → Int32 → Int32 → Int32 → Int32 → Int32 → am_Mem → Option (Int32 × am_Mem)
  | 0 => fun _ _ _ _ _ _ _ => none
  | i + 1 => fn12_laysMatrix_b13B N (fn12_laysMatrix_b13 N  i)
def fn12_laysMatrix_b10 (N : Nat)  (r0 : Nat) (x1 : Int32) (x2 : Int32) (x3 : Int32) (x4 : Int32) (M : am_Mem) : Option (Int32 × am_Mem) :=
  fn12_laysMatrix_b13 N  N r0 x1 x2 x3 x4 (0 : Int32) M
def fn12_laysMatrix_b0 (N : Nat)  (r0 : Nat) (x1 : Int32) (x2 : Int32) (x3 : Int32) (M : am_Mem) : Option (Int32 × am_Mem) :=
  am_ck (am_k M r0 12) (am_ck (am_k M (am_R M r0 24) 14) (am_ck (am_in x1 (am_L M (am_R M r0 24))) (fn12_laysMatrix_b10 N  r0 x1 x2 x3 ((am_I M (am_R M r0 24) x1.toNatClampNeg) - (1 : Int32)) M)))
def fn12_laysMatrix (N : Nat) (M : am_Mem) (r0 : Nat) (x1 : Int32) (x2 : Int32) (x3 : Int32) : Option (Int32 × am_Mem) := fn12_laysMatrix_b0 N r0 x1 x2 x3 M
def rm12_laysMatrix : Room := { frames := 1, cells := 0, slots := 0, locals := 29 }
set_option maxRecDepth 20000 in
theorem sn12_laysMatrix_b158 {l : Launch} {G : am_G} {v : Int32} {M' : am_Mem} {N : Nat}  (cx : am_Ctx l rm12_laysMatrix yX12_laysMatrix cX12_laysMatrix 8 (some .int) (some (.inl v)) M' 0 0 G)  {a0 : Int32} {M : am_Mem} (hres : fn12_laysMatrix_b158 N  a0 M = some (v, M')) : G 158 [] [.inl a0] M 0 0 := by
  unfold fn12_laysMatrix_b158 at hres
  obtain ⟨rfl, rfl⟩ := am_fin hres
  exact am_iret cx dX12_laysMatrix_158
set_option maxRecDepth 20000 in
theorem sn12_laysMatrix_b82 {l : Launch} {G : am_G} {v : Int32} {M' : am_Mem} {N : Nat} {k37 : Nat → Int32 → Int32 → Int32 → Int32 → Int32 → am_Mem → Option (Int32 × am_Mem)} (cx : am_Ctx l rm12_laysMatrix yX12_laysMatrix cX12_laysMatrix 8 (some .int) (some (.inl v)) M' 0 0 G) (hk37 : ∀ (r0 : Nat) (x1 : Int32) (x2 : Int32) (x3 : Int32) (x4 : Int32) (x5 : Int32) (M : am_Mem), k37 r0 x1 x2 x3 x4 x5 M = some (v, M') → G 37 [(0, .inr (.inr r0)), (1, .inl x1), (2, .inl x2), (3, .inl x3), (4, .inl x4), (5, .inl x5)] [] M 0 0) {r0 : Nat} {x1 : Int32} {x2 : Int32} {x3 : Int32} {x4 : Int32} {x5 : Int32} {x6 : Int32} {x7 : Int32} {M : am_Mem} (hres : fn12_laysMatrix_b82 N k37 r0 x1 x2 x3 x4 x5 x6 x7 M = some (v, M')) : G 82 [(0, .inr (.inr r0)), (1, .inl x1), (2, .inl x2), (3, .inl x3), (4, .inl x4), (5, .inl x5), (6, .inl x6), (7, .inl x7)] [] M 0 0 := by
  unfold fn12_laysMatrix_b82 at hres
  refine am_aload_n cx 0 dX12_laysMatrix_82 rfl ?_
  refine am_iload cx 4 dX12_laysMatrix_83 rfl ?_
  refine am_iload cx 6 dX12_laysMatrix_85 rfl ?_
  refine am_iload cx 6 dX12_laysMatrix_87 rfl ?_
  refine am_iload_n cx 2 dX12_laysMatrix_89 rfl ?_
  refine am_iload_n cx 3 dX12_laysMatrix_90 rfl ?_
  refine am_lconst cx (v := (1 : Int64)) dX12_laysMatrix_91 (by decide) ?_
  obtain ⟨q1, hres⟩ := am_ck_some hres
  obtain ⟨v2, M3, q4, hres⟩ := am_bd_some hres
  refine am_callV0 cx [.inl x4, .inl x6, .inl x6, .inl x2, .inl x3, .inr (.inl (1 : Int64))] dX12_laysMatrix_92 cvX12_246 (mt12_adds q4) (am_ke q1) ⟨rfl, rfl, Nat.le_of_ble_eq_true rfl, Nat.le_of_ble_eq_true rfl⟩ rfl (Nat.le_of_ble_eq_true rfl) ⟨Nat.le_of_ble_eq_true rfl, Nat.le_of_ble_eq_true rfl⟩ ?_
  refine am_aload_n cx 0 dX12_laysMatrix_95 rfl ?_
  refine am_iload cx 4 dX12_laysMatrix_96 rfl ?_
  refine am_iload cx 7 dX12_laysMatrix_98 rfl ?_
  refine am_iload cx 7 dX12_laysMatrix_100 rfl ?_
  refine am_iload_n cx 2 dX12_laysMatrix_102 rfl ?_
  refine am_iload_n cx 3 dX12_laysMatrix_103 rfl ?_
  refine am_lconst cx (v := (1 : Int64)) dX12_laysMatrix_104 (by decide) ?_
  obtain ⟨q5, hres⟩ := am_ck_some hres
  obtain ⟨v6, M7, q8, hres⟩ := am_bd_some hres
  refine am_callV0 cx [.inl x4, .inl x7, .inl x7, .inl x2, .inl x3, .inr (.inl (1 : Int64))] dX12_laysMatrix_105 cvX12_246 (mt12_adds q8) (am_ke q5) ⟨rfl, rfl, Nat.le_of_ble_eq_true rfl, Nat.le_of_ble_eq_true rfl⟩ rfl (Nat.le_of_ble_eq_true rfl) ⟨Nat.le_of_ble_eq_true rfl, Nat.le_of_ble_eq_true rfl⟩ ?_
  refine am_aload_n cx 0 dX12_laysMatrix_108 rfl ?_
  refine am_iload cx 4 dX12_laysMatrix_109 rfl ?_
  refine am_iload cx 6 dX12_laysMatrix_111 rfl ?_
  refine am_iload cx 7 dX12_laysMatrix_113 rfl ?_
  refine am_iload_n cx 2 dX12_laysMatrix_115 rfl ?_
  refine am_iload_n cx 3 dX12_laysMatrix_116 rfl ?_
  refine am_ldc2 cx dX12_laysMatrix_117 aw_6_86 ?_
  obtain ⟨q9, hres⟩ := am_ck_some hres
  obtain ⟨v10, M11, q12, hres⟩ := am_bd_some hres
  refine am_callV0 cx [.inl x4, .inl x6, .inl x7, .inl x2, .inl x3, .inr (.inl (-1 : Int64))] dX12_laysMatrix_120 cvX12_246 (mt12_adds q12) (am_ke q9) ⟨rfl, rfl, Nat.le_of_ble_eq_true rfl, Nat.le_of_ble_eq_true rfl⟩ rfl (Nat.le_of_ble_eq_true rfl) ⟨Nat.le_of_ble_eq_true rfl, Nat.le_of_ble_eq_true rfl⟩ ?_
  refine am_aload_n cx 0 dX12_laysMatrix_123 rfl ?_
  refine am_iload cx 4 dX12_laysMatrix_124 rfl ?_
  refine am_iload cx 7 dX12_laysMatrix_126 rfl ?_
  refine am_iload cx 6 dX12_laysMatrix_128 rfl ?_
  refine am_iload_n cx 2 dX12_laysMatrix_130 rfl ?_
  refine am_iload_n cx 3 dX12_laysMatrix_131 rfl ?_
  refine am_ldc2 cx dX12_laysMatrix_132 aw_6_86 ?_
  obtain ⟨q13, hres⟩ := am_ck_some hres
  obtain ⟨v14, M15, q16, hres⟩ := am_bd_some hres
  refine am_callV0 cx [.inl x4, .inl x7, .inl x6, .inl x2, .inl x3, .inr (.inl (-1 : Int64))] dX12_laysMatrix_135 cvX12_246 (mt12_adds q16) (am_ke q13) ⟨rfl, rfl, Nat.le_of_ble_eq_true rfl, Nat.le_of_ble_eq_true rfl⟩ rfl (Nat.le_of_ble_eq_true rfl) ⟨Nat.le_of_ble_eq_true rfl, Nat.le_of_ble_eq_true rfl⟩ ?_
  refine am_iincw cx (lv' := [(0, .inr (.inr r0)), (1, .inl x1), (2, .inl x2), (3, .inl x3), (4, .inl x4), (5, .inl (x5 + (1 : Int32))), (6, .inl x6), (7, .inl x7)]) (w := (1 : Int32)) 5 dX12_laysMatrix_138 (by decide) rfl (Nat.le_of_ble_eq_true rfl) rfl ?_
  refine am_goto cx (tgt := 37) dX12_laysMatrix_141 (by decide) ?_
  refine am_sub cx [0, 1, 2, 3, 4, 5] rfl ?_
  exact hk37 _ _ _ _ _ _ _ hres
set_option maxRecDepth 20000 in
theorem sn12_laysMatrix_b64 {l : Launch} {G : am_G} {v : Int32} {M' : am_Mem} {N : Nat} {k37 : Nat → Int32 → Int32 → Int32 → Int32 → Int32 → am_Mem → Option (Int32 × am_Mem)} (cx : am_Ctx l rm12_laysMatrix yX12_laysMatrix cX12_laysMatrix 8 (some .int) (some (.inl v)) M' 0 0 G) (hk37 : ∀ (r0 : Nat) (x1 : Int32) (x2 : Int32) (x3 : Int32) (x4 : Int32) (x5 : Int32) (M : am_Mem), k37 r0 x1 x2 x3 x4 x5 M = some (v, M') → G 37 [(0, .inr (.inr r0)), (1, .inl x1), (2, .inl x2), (3, .inl x3), (4, .inl x4), (5, .inl x5)] [] M 0 0) {r0 : Nat} {x1 : Int32} {x2 : Int32} {x3 : Int32} {x4 : Int32} {x5 : Int32} {x6 : Int32} {M : am_Mem} (hres : fn12_laysMatrix_b64 N k37 r0 x1 x2 x3 x4 x5 x6 M = some (v, M')) : G 64 [(0, .inr (.inr r0)), (1, .inl x1), (2, .inl x2), (3, .inl x3), (4, .inl x4), (5, .inl x5), (6, .inl x6)] [] M 0 0 := by
  unfold fn12_laysMatrix_b64 at hres
  refine am_aload_n cx 0 dX12_laysMatrix_64 rfl ?_
  obtain ⟨q1, hres⟩ := am_ck_some hres
  refine am_getR cx dX12_laysMatrix_65 flX12_52 (am_ke q1) ?_
  refine am_bipush cx (v := (28 : Int32)) dX12_laysMatrix_68 (by decide) ?_
  refine am_iload_n cx 1 dX12_laysMatrix_70 rfl ?_
  refine am_imul cx dX12_laysMatrix_71 ?_
  refine am_iconst cx (v := (2 : Int32)) dX12_laysMatrix_72 (by decide) ?_
  refine am_iload cx 5 dX12_laysMatrix_73 rfl ?_
  refine am_imul cx dX12_laysMatrix_75 ?_
  refine am_iadd cx dX12_laysMatrix_76 ?_
  refine am_iconst cx (v := (1 : Int32)) dX12_laysMatrix_77 (by decide) ?_
  refine am_iadd cx dX12_laysMatrix_78 ?_
  obtain ⟨q2, hres⟩ := am_ck_some hres
  obtain ⟨q3, hres⟩ := am_ck_some hres
  refine am_iald cx dX12_laysMatrix_79 (am_ke q2) q3 ?_
  refine am_istore cx (lv' := [(0, .inr (.inr r0)), (1, .inl x1), (2, .inl x2), (3, .inl x3), (4, .inl x4), (5, .inl x5), (6, .inl x6), (7, .inl (am_I M (am_R M r0 26) ((((28 : Int32) * x1) + ((2 : Int32) * x5)) + (1 : Int32)).toNatClampNeg))]) dX12_laysMatrix_80 (Nat.le_of_ble_eq_true rfl) rfl ?_
  exact sn12_laysMatrix_b82 cx hk37 hres
set_option maxRecDepth 20000 in
theorem sn12_laysMatrix_b37B {l : Launch} {G : am_G} {v : Int32} {M' : am_Mem} {N : Nat} {k37 : Nat → Int32 → Int32 → Int32 → Int32 → Int32 → am_Mem → Option (Int32 × am_Mem)} (cx : am_Ctx l rm12_laysMatrix yX12_laysMatrix cX12_laysMatrix 8 (some .int) (some (.inl v)) M' 0 0 G) (hk37 : ∀ (r0 : Nat) (x1 : Int32) (x2 : Int32) (x3 : Int32) (x4 : Int32) (x5 : Int32) (M : am_Mem), k37 r0 x1 x2 x3 x4 x5 M = some (v, M') → G 37 [(0, .inr (.inr r0)), (1, .inl x1), (2, .inl x2), (3, .inl x3), (4, .inl x4), (5, .inl x5)] [] M 0 0) {r0 : Nat} {x1 : Int32} {x2 : Int32} {x3 : Int32} {x4 : Int32} {x5 : Int32} {M : am_Mem} (hres : fn12_laysMatrix_b37B N k37 r0 x1 x2 x3 x4 x5 M = some (v, M')) : G 37 [(0, .inr (.inr r0)), (1, .inl x1), (2, .inl x2), (3, .inl x3), (4, .inl x4), (5, .inl x5)] [] M 0 0 := by
  unfold fn12_laysMatrix_b37B at hres
  refine am_iload cx 5 dX12_laysMatrix_37 rfl ?_
  refine am_aload_n cx 0 dX12_laysMatrix_39 rfl ?_
  obtain ⟨q1, hres⟩ := am_ck_some hres
  refine am_getR cx dX12_laysMatrix_40 flX12_49 (am_ke q1) ?_
  refine am_iload_n cx 1 dX12_laysMatrix_43 rfl ?_
  obtain ⟨q2, hres⟩ := am_ck_some hres
  obtain ⟨q3, hres⟩ := am_ck_some hres
  refine am_iald cx dX12_laysMatrix_44 (am_ke q2) q3 ?_
  refine am_icmp_ge cx (tgt := 144) dX12_laysMatrix_45 (by decide) (fun h => ?_) (fun h => ?_)
  · have hres := am_ifp h hres
    refine am_iload_n cx 2 dX12_laysMatrix_144 rfl ?_
    refine am_iconst cx (v := (-1 : Int32)) dX12_laysMatrix_145 (by decide) ?_
    refine am_icmp_ne cx (tgt := 154) dX12_laysMatrix_146 (by decide) (fun h => ?_) (fun h => ?_)
    · have hres := am_ifn h hres
      refine am_iload cx 4 dX12_laysMatrix_154 rfl ?_
      refine am_iconst cx (v := (1 : Int32)) dX12_laysMatrix_156 (by decide) ?_
      refine am_isub cx dX12_laysMatrix_157 ?_
      refine am_sub cx [] rfl ?_
      exact sn12_laysMatrix_b158 cx  hres
    · have hres := am_ifp h hres
      refine am_iload cx 4 dX12_laysMatrix_149 rfl ?_
      refine am_goto cx (tgt := 158) dX12_laysMatrix_151 (by decide) ?_
      refine am_sub cx [] rfl ?_
      exact sn12_laysMatrix_b158 cx  hres
  · have hres := am_ifn h hres
    refine am_aload_n cx 0 dX12_laysMatrix_48 rfl ?_
    refine am_getR cx dX12_laysMatrix_49 flX12_52 (am_ke q1) ?_
    refine am_bipush cx (v := (28 : Int32)) dX12_laysMatrix_52 (by decide) ?_
    refine am_iload_n cx 1 dX12_laysMatrix_54 rfl ?_
    refine am_imul cx dX12_laysMatrix_55 ?_
    refine am_iconst cx (v := (2 : Int32)) dX12_laysMatrix_56 (by decide) ?_
    refine am_iload cx 5 dX12_laysMatrix_57 rfl ?_
    refine am_imul cx dX12_laysMatrix_59 ?_
    refine am_iadd cx dX12_laysMatrix_60 ?_
    obtain ⟨q4, hres⟩ := am_ck_some hres
    obtain ⟨q5, hres⟩ := am_ck_some hres
    refine am_iald cx dX12_laysMatrix_61 (am_ke q4) q5 ?_
    refine am_istore cx (lv' := [(0, .inr (.inr r0)), (1, .inl x1), (2, .inl x2), (3, .inl x3), (4, .inl x4), (5, .inl x5), (6, .inl (am_I M (am_R M r0 26) (((28 : Int32) * x1) + ((2 : Int32) * x5)).toNatClampNeg))]) dX12_laysMatrix_62 (Nat.le_of_ble_eq_true rfl) rfl ?_
    exact sn12_laysMatrix_b64 cx hk37 hres
set_option maxRecDepth 20000 in
theorem sn12_laysMatrix_b37 {l : Launch} {G : am_G} {v : Int32} {M' : am_Mem} {N : Nat}  (cx : am_Ctx l rm12_laysMatrix yX12_laysMatrix cX12_laysMatrix 8 (some .int) (some (.inl v)) M' 0 0 G)  (i : Nat) : ∀ (r0 : Nat) (x1 : Int32) (x2 : Int32) (x3 : Int32) (x4 : Int32) (x5 : Int32) (M : am_Mem), fn12_laysMatrix_b37 N  i r0 x1 x2 x3 x4 x5 M = some (v, M') → G 37 [(0, .inr (.inr r0)), (1, .inl x1), (2, .inl x2), (3, .inl x3), (4, .inl x4), (5, .inl x5)] [] M 0 0 := by
  induction i with
  | zero => intro r0 x1 x2 x3 x4 x5 M hres; exact am_no hres
  | succ i ih => intro r0 x1 x2 x3 x4 x5 M hres; exact sn12_laysMatrix_b37B cx ih hres
set_option maxRecDepth 20000 in
theorem sn12_laysMatrix_b13B {l : Launch} {G : am_G} {v : Int32} {M' : am_Mem} {N : Nat} {k13 : Nat → Int32 → Int32 → Int32 → Int32 → Int32 → am_Mem → Option (Int32 × am_Mem)} (cx : am_Ctx l rm12_laysMatrix yX12_laysMatrix cX12_laysMatrix 8 (some .int) (some (.inl v)) M' 0 0 G) (hk13 : ∀ (r0 : Nat) (x1 : Int32) (x2 : Int32) (x3 : Int32) (x4 : Int32) (x5 : Int32) (M : am_Mem), k13 r0 x1 x2 x3 x4 x5 M = some (v, M') → G 13 [(0, .inr (.inr r0)), (1, .inl x1), (2, .inl x2), (3, .inl x3), (4, .inl x4), (5, .inl x5)] [] M 0 0) {r0 : Nat} {x1 : Int32} {x2 : Int32} {x3 : Int32} {x4 : Int32} {x5 : Int32} {M : am_Mem} (hres : fn12_laysMatrix_b13B N k13 r0 x1 x2 x3 x4 x5 M = some (v, M')) : G 13 [(0, .inr (.inr r0)), (1, .inl x1), (2, .inl x2), (3, .inl x3), (4, .inl x4), (5, .inl x5)] [] M 0 0 := by
  unfold fn12_laysMatrix_b13B at hres
  refine am_iload cx 5 dX12_laysMatrix_13 rfl ?_
  refine am_bipush cx (v := (64 : Int32)) dX12_laysMatrix_15 (by decide) ?_
  refine am_icmp_ge cx (tgt := 34) dX12_laysMatrix_17 (by decide) (fun h => ?_) (fun h => ?_)
  · have hres := am_ifp h hres
    refine am_iconst cx (v := (0 : Int32)) dX12_laysMatrix_34 (by decide) ?_
    refine am_istore cx (lv' := [(0, .inr (.inr r0)), (1, .inl x1), (2, .inl x2), (3, .inl x3), (4, .inl x4), (5, .inl (0 : Int32))]) dX12_laysMatrix_35 (Nat.le_of_ble_eq_true rfl) rfl ?_
    exact sn12_laysMatrix_b37 cx  N _ _ _ _ _ _ _ hres
  · have hres := am_ifn h hres
    refine am_aload_n cx 0 dX12_laysMatrix_20 rfl ?_
    obtain ⟨q1, hres⟩ := am_ck_some hres
    refine am_getR cx dX12_laysMatrix_21 flX12_79 (am_ke q1) ?_
    refine am_iload cx 5 dX12_laysMatrix_24 rfl ?_
    refine am_lconst cx (v := (0 : Int64)) dX12_laysMatrix_26 (by decide) ?_
    obtain ⟨q2, hres⟩ := am_ck_some hres
    obtain ⟨q3, hres⟩ := am_ck_some hres
    refine am_last cx dX12_laysMatrix_27 (am_ke q2) q3  ?_
    refine am_iincw cx (lv' := [(0, .inr (.inr r0)), (1, .inl x1), (2, .inl x2), (3, .inl x3), (4, .inl x4), (5, .inl (x5 + (1 : Int32)))]) (w := (1 : Int32)) 5 dX12_laysMatrix_28 (by decide) rfl (Nat.le_of_ble_eq_true rfl) rfl ?_
    refine am_goto cx (tgt := 13) dX12_laysMatrix_31 (by decide) ?_
    exact hk13 _ _ _ _ _ _ _ hres
set_option maxRecDepth 20000 in
theorem sn12_laysMatrix_b13 {l : Launch} {G : am_G} {v : Int32} {M' : am_Mem} {N : Nat}  (cx : am_Ctx l rm12_laysMatrix yX12_laysMatrix cX12_laysMatrix 8 (some .int) (some (.inl v)) M' 0 0 G)  (i : Nat) : ∀ (r0 : Nat) (x1 : Int32) (x2 : Int32) (x3 : Int32) (x4 : Int32) (x5 : Int32) (M : am_Mem), fn12_laysMatrix_b13 N  i r0 x1 x2 x3 x4 x5 M = some (v, M') → G 13 [(0, .inr (.inr r0)), (1, .inl x1), (2, .inl x2), (3, .inl x3), (4, .inl x4), (5, .inl x5)] [] M 0 0 := by
  induction i with
  | zero => intro r0 x1 x2 x3 x4 x5 M hres; exact am_no hres
  | succ i ih => intro r0 x1 x2 x3 x4 x5 M hres; exact sn12_laysMatrix_b13B cx ih hres
set_option maxRecDepth 20000 in
theorem sn12_laysMatrix_b10 {l : Launch} {G : am_G} {v : Int32} {M' : am_Mem} {N : Nat}  (cx : am_Ctx l rm12_laysMatrix yX12_laysMatrix cX12_laysMatrix 8 (some .int) (some (.inl v)) M' 0 0 G)  {r0 : Nat} {x1 : Int32} {x2 : Int32} {x3 : Int32} {x4 : Int32} {M : am_Mem} (hres : fn12_laysMatrix_b10 N  r0 x1 x2 x3 x4 M = some (v, M')) : G 10 [(0, .inr (.inr r0)), (1, .inl x1), (2, .inl x2), (3, .inl x3), (4, .inl x4)] [] M 0 0 := by
  unfold fn12_laysMatrix_b10 at hres
  refine am_iconst cx (v := (0 : Int32)) dX12_laysMatrix_10 (by decide) ?_
  refine am_istore cx (lv' := [(0, .inr (.inr r0)), (1, .inl x1), (2, .inl x2), (3, .inl x3), (4, .inl x4), (5, .inl (0 : Int32))]) dX12_laysMatrix_11 (Nat.le_of_ble_eq_true rfl) rfl ?_
  exact sn12_laysMatrix_b13 cx  N _ _ _ _ _ _ _ hres
set_option maxRecDepth 20000 in
theorem sn12_laysMatrix_b0 {l : Launch} {G : am_G} {v : Int32} {M' : am_Mem} {N : Nat}  (cx : am_Ctx l rm12_laysMatrix yX12_laysMatrix cX12_laysMatrix 8 (some .int) (some (.inl v)) M' 0 0 G)  {r0 : Nat} {x1 : Int32} {x2 : Int32} {x3 : Int32} {M : am_Mem} (hres : fn12_laysMatrix_b0 N  r0 x1 x2 x3 M = some (v, M')) : G 0 [(0, .inr (.inr r0)), (1, .inl x1), (2, .inl x2), (3, .inl x3)] [] M 0 0 := by
  unfold fn12_laysMatrix_b0 at hres
  refine am_aload_n cx 0 dX12_laysMatrix_0 rfl ?_
  obtain ⟨q1, hres⟩ := am_ck_some hres
  refine am_getR cx dX12_laysMatrix_1 flX12_46 (am_ke q1) ?_
  refine am_iload_n cx 1 dX12_laysMatrix_4 rfl ?_
  obtain ⟨q2, hres⟩ := am_ck_some hres
  obtain ⟨q3, hres⟩ := am_ck_some hres
  refine am_iald cx dX12_laysMatrix_5 (am_ke q2) q3 ?_
  refine am_iconst cx (v := (1 : Int32)) dX12_laysMatrix_6 (by decide) ?_
  refine am_isub cx dX12_laysMatrix_7 ?_
  refine am_istore cx (lv' := [(0, .inr (.inr r0)), (1, .inl x1), (2, .inl x2), (3, .inl x3), (4, .inl ((am_I M (am_R M r0 24) x1.toNatClampNeg) - (1 : Int32)))]) dX12_laysMatrix_8 (Nat.le_of_ble_eq_true rfl) rfl ?_
  exact sn12_laysMatrix_b10 cx  hres
set_option maxRecDepth 20000 in
theorem mt12_laysMatrix {l : Launch} {v : Int32} {M M' : am_Mem} {N : Nat} {r0 : Nat} {x1 : Int32} {x2 : Int32} {x3 : Int32} (h : fn12_laysMatrix N M r0 x1 x2 x3 = some (v, M')) : am_Met l yX12_laysMatrix cX12_laysMatrix 8 (some .int) rm12_laysMatrix 0 0 [.inr (.inr r0), .inl x1, .inl x2, .inl x3] M (some (.inl v)) M' := am_mk (by decide) (Nat.le_of_ble_eq_true rfl) (fun G cx => (sn12_laysMatrix_b0 cx h))
