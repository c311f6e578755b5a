-- SquareCuts$Tiling.right
def fn10_right_b0  (r0 : Nat) (x1 : Int32) (M : am_Mem) : Option (Int32 × am_Mem) :=
  am_ck (am_k M r0 10) (am_ck (am_k M (am_R M r0 7) 14) (am_ck (am_in x1 (am_L M (am_R M r0 7))) (am_ck (am_k M (am_R M r0 9) 14) (am_ck (am_in x1 (am_L M (am_R M r0 9))) (some (((am_I M (am_R M r0 7) x1.toNatClampNeg) + (am_I M (am_R M r0 9) x1.toNatClampNeg)), M))))))
def fn10_right (M : am_Mem) (r0 : Nat) (x1 : Int32) : Option (Int32 × am_Mem) := fn10_right_b0  r0 x1 M
def rm10_right : Room := { frames := 0, cells := 0, slots := 0, locals := 0 }
set_option maxRecDepth 20000 in
theorem sn10_right_b0 {l : Launch} {G : am_G} {v : Int32} {M' : am_Mem}  (cx : am_Ctx l rm10_right yX10_right cX10_right 2 (some .int) (some (.inl v)) M' 0 0 G)  {r0 : Nat} {x1 : Int32} {M : am_Mem} (hres : fn10_right_b0  r0 x1 M = some (v, M')) : G 0 [(0, .inr (.inr (.inl r0))), (1, .inl x1)] [] M 0 0 := by
  unfold fn10_right_b0 at hres
  refine am_aload_n cx 0 dX10_right_0 rfl ?_
  obtain ⟨q1, hres⟩ := am_ck_some hres
  refine am_getR cx dX10_right_1 flX10_41 (am_ke q1) ?_
  refine am_iload_n cx 1 dX10_right_4 rfl ?_
  obtain ⟨q2, hres⟩ := am_ck_some hres
  obtain ⟨q3, hres⟩ := am_ck_some hres
  refine am_iald cx dX10_right_5 (am_ke q2) q3 ?_
  refine am_aload_n cx 0 dX10_right_6 rfl ?_
  refine am_getR cx dX10_right_7 flX10_48 (am_ke q1) ?_
  refine am_iload_n cx 1 dX10_right_10 rfl ?_
  obtain ⟨q4, hres⟩ := am_ck_some hres
  obtain ⟨q5, hres⟩ := am_ck_some hres
  refine am_iald cx dX10_right_11 (am_ke q4) q5 ?_
  refine am_iadd cx dX10_right_12 ?_
  obtain ⟨rfl, rfl⟩ := am_fin hres
  exact am_iret cx dX10_right_13
set_option maxRecDepth 20000 in
theorem mt10_right {l : Launch} {v : Int32} {M M' : am_Mem} {r0 : Nat} {x1 : Int32} (h : fn10_right M r0 x1 = some (v, M')) : am_Met l yX10_right cX10_right 2 (some .int) rm10_right 0 0 [.inr (.inr (.inl r0)), .inl x1] M (some (.inl v)) M' := am_mk (by decide) (Nat.le_of_ble_eq_true rfl) (fun G cx => (sn10_right_b0 cx h))
-- SquareCuts$Tiling.bottom
def fn10_bottom_b0  (r0 : Nat) (x1 : Int32) (M : am_Mem) : Option (Int32 × am_Mem) :=
  am_ck (am_k M r0 10) (am_ck (am_k M (am_R M r0 8) 14) (am_ck (am_in x1 (am_L M (am_R M r0 8))) (am_ck (am_k M (am_R M r0 9) 14) (am_ck (am_in x1 (am_L M (am_R M r0 9))) (some (((am_I M (am_R M r0 8) x1.toNatClampNeg) + (am_I M (am_R M r0 9) x1.toNatClampNeg)), M))))))
def fn10_bottom (M : am_Mem) (r0 : Nat) (x1 : Int32) : Option (Int32 × am_Mem) := fn10_bottom_b0  r0 x1 M
def rm10_bottom : Room := { frames := 0, cells := 0, slots := 0, locals := 0 }
set_option maxRecDepth 20000 in
theorem sn10_bottom_b0 {l : Launch} {G : am_G} {v : Int32} {M' : am_Mem}  (cx : am_Ctx l rm10_bottom yX10_bottom cX10_bottom 2 (some .int) (some (.inl v)) M' 0 0 G)  {r0 : Nat} {x1 : Int32} {M : am_Mem} (hres : fn10_bottom_b0  r0 x1 M = some (v, M')) : G 0 [(0, .inr (.inr (.inl r0))), (1, .inl x1)] [] M 0 0 := by
  unfold fn10_bottom_b0 at hres
  refine am_aload_n cx 0 dX10_bottom_0 rfl ?_
  obtain ⟨q1, hres⟩ := am_ck_some hres
  refine am_getR cx dX10_bottom_1 flX10_45 (am_ke q1) ?_
  refine am_iload_n cx 1 dX10_bottom_4 rfl ?_
  obtain ⟨q2, hres⟩ := am_ck_some hres
  obtain ⟨q3, hres⟩ := am_ck_some hres
  refine am_iald cx dX10_bottom_5 (am_ke q2) q3 ?_
  refine am_aload_n cx 0 dX10_bottom_6 rfl ?_
  refine am_getR cx dX10_bottom_7 flX10_48 (am_ke q1) ?_
  refine am_iload_n cx 1 dX10_bottom_10 rfl ?_
  obtain ⟨q4, hres⟩ := am_ck_some hres
  obtain ⟨q5, hres⟩ := am_ck_some hres
  refine am_iald cx dX10_bottom_11 (am_ke q4) q5 ?_
  refine am_iadd cx dX10_bottom_12 ?_
  obtain ⟨rfl, rfl⟩ := am_fin hres
  exact am_iret cx dX10_bottom_13
set_option maxRecDepth 20000 in
theorem mt10_bottom {l : Launch} {v : Int32} {M M' : am_Mem} {r0 : Nat} {x1 : Int32} (h : fn10_bottom M r0 x1 = some (v, M')) : am_Met l yX10_bottom cX10_bottom 2 (some .int) rm10_bottom 0 0 [.inr (.inr (.inl r0)), .inl x1] M (some (.inl v)) M' := am_mk (by decide) (Nat.le_of_ble_eq_true rfl) (fun G cx => (sn10_bottom_b0 cx h))
-- SquareCuts$Tiling.isPerfect
def fn10_isPerfect_b64 (N : Nat)  (a0 : Int32) (M : am_Mem) : Option (Int32 × am_Mem) :=
  am_ck (a0 == 0 || a0 == 1) (some (a0, M))
def fn10_isPerfect_b14B (N : Nat) (k2 : Nat → Int32 → am_Mem → Option (Int32 × am_Mem)) (k14 : Nat → Int32 → Int32 → am_Mem → Option (Int32 × am_Mem)) (r0 : Nat) (x1 : Int32) (x2 : Int32) (M : am_Mem) : Option (Int32 × am_Mem) :=
  am_ck (am_k M r0 10) (if (am_I M r0 4) ≤ x2 then k2 r0 (x1 + (1 : Int32)) M else am_ck (am_k M (am_R M r0 9) 14) (am_ck (am_in x1 (am_L M (am_R M r0 9))) (am_ck (am_in x2 (am_L M (am_R M r0 9))) (if (am_I M (am_R M r0 9) x1.toNatClampNeg) = (am_I M (am_R M r0 9) x2.toNatClampNeg) then some ((0 : Int32), M) else k14 r0 x1 (x2 + (1 : Int32)) M))))
def fn10_isPerfect_b14 (N : Nat) (k2 : Nat → Int32 → am_Mem → Option (Int32 × am_Mem)) : Nat → Nat → Int32 → Int32 → am_Mem → Option (Int32 × am_Mem)
  | 0 => fun _ _ _ _ => none
  | i + 1 => fn10_isPerfect_b14B N k2 (fn10_isPerfect_b14 N k2 i)
def fn10_isPerfect_b2B (N : Nat) (k2 : Nat → Int32 → am_Mem → Option (Int32 × am_Mem)) (r0 : Nat) (x1 : Int32) (M : am_Mem) : Option (Int32 × am_Mem) :=
  am_ck (am_k M r0 10) (if (am_I M r0 4) ≤ x1 then if (am_I M r0 4) < (2 : Int32) then fn10_isPerfect_b64 N  (0 : Int32) M else fn10_isPerfect_b64 N  (1 : Int32) M else fn10_isPerfect_b14 N k2 N r0 x1 (x1 + (1 : Int32)) M)
def fn10_isPerfect_b2 (N : Nat)  : Nat → Nat → Int32 → am_Mem → Option (Int32 × am_Mem)
  | 0 => fun _ _ _ => none
  | i + 1 => fn10_isPerfect_b2B N (fn10_isPerfect_b2 N  i)
def fn10_isPerfect_b0 (N : Nat)  (r0 : Nat) (M : am_Mem) : Option (Int32 × am_Mem) :=
  fn10_isPerfect_b2 N  N r0 (0 : Int32) M
def fn10_isPerfect (N : Nat) (M : am_Mem) (r0 : Nat) : Option (Int32 × am_Mem) := fn10_isPerfect_b0 N r0 M
def rm10_isPerfect : Room := { frames := 0, cells := 0, slots := 0, locals := 0 }
set_option maxRecDepth 20000 in
theorem sn10_isPerfect_b64 {l : Launch} {G : am_G} {v : Int32} {M' : am_Mem} {N : Nat}  (cx : am_Ctx l rm10_isPerfect yX10_isPerfect cX10_isPerfect 3 (some .boolean) (some (.inl v)) M' 0 0 G)  {a0 : Int32} {M : am_Mem} (hres : fn10_isPerfect_b64 N  a0 M = some (v, M')) : G 64 [] [.inl a0] M 0 0 := by
  unfold fn10_isPerfect_b64 at hres
  obtain ⟨q1, hres⟩ := am_ck_some hres
  obtain ⟨rfl, rfl⟩ := am_fin hres
  exact am_zret cx q1 dX10_isPerfect_64
set_option maxRecDepth 20000 in
theorem sn10_isPerfect_b14B {l : Launch} {G : am_G} {v : Int32} {M' : am_Mem} {N : Nat} {k2 : Nat → Int32 → am_Mem → Option (Int32 × am_Mem)} {k14 : Nat → Int32 → Int32 → am_Mem → Option (Int32 × am_Mem)} (cx : am_Ctx l rm10_isPerfect yX10_isPerfect cX10_isPerfect 3 (some .boolean) (some (.inl v)) M' 0 0 G) (hk2 : ∀ (r0 : Nat) (x1 : Int32) (M : am_Mem), k2 r0 x1 M = some (v, M') → G 2 [(0, .inr (.inr (.inl r0))), (1, .inl x1)] [] M 0 0) (hk14 : ∀ (r0 : Nat) (x1 : Int32) (x2 : Int32) (M : am_Mem), k14 r0 x1 x2 M = some (v, M') → G 14 [(0, .inr (.inr (.inl r0))), (1, .inl x1), (2, .inl x2)] [] M 0 0) {r0 : Nat} {x1 : Int32} {x2 : Int32} {M : am_Mem} (hres : fn10_isPerfect_b14B N k2 k14 r0 x1 x2 M = some (v, M')) : G 14 [(0, .inr (.inr (.inl r0))), (1, .inl x1), (2, .inl x2)] [] M 0 0 := by
  unfold fn10_isPerfect_b14B at hres
  refine am_iload_n cx 2 dX10_isPerfect_14 rfl ?_
  refine am_aload_n cx 0 dX10_isPerfect_15 rfl ?_
  obtain ⟨q1, hres⟩ := am_ck_some hres
  refine am_getI cx dX10_isPerfect_16 flX10_32 (am_ke q1) ?_
  refine am_icmp_ge cx (tgt := 45) dX10_isPerfect_19 (by decide) (fun h => ?_) (fun h => ?_)
  · have hres := am_ifp h hres
    refine am_iincw cx (lv' := [(0, .inr (.inr (.inl r0))), (1, .inl (x1 + (1 : Int32))), (2, .inl x2)]) (w := (1 : Int32)) 1 dX10_isPerfect_45 (by decide) rfl (Nat.le_of_ble_eq_true rfl) rfl ?_
    refine am_goto cx (tgt := 2) dX10_isPerfect_48 (by decide) ?_
    refine am_sub cx [0, 1] rfl ?_
    exact hk2 _ _ _ hres
  · have hres := am_ifn h hres
    refine am_aload_n cx 0 dX10_isPerfect_22 rfl ?_
    refine am_getR cx dX10_isPerfect_23 flX10_48 (am_ke q1) ?_
    refine am_iload_n cx 1 dX10_isPerfect_26 rfl ?_
    obtain ⟨q2, hres⟩ := am_ck_some hres
    obtain ⟨q3, hres⟩ := am_ck_some hres
    refine am_iald cx dX10_isPerfect_27 (am_ke q2) q3 ?_
    refine am_aload_n cx 0 dX10_isPerfect_28 rfl ?_
    refine am_getR cx dX10_isPerfect_29 flX10_48 (am_ke q1) ?_
    refine am_iload_n cx 2 dX10_isPerfect_32 rfl ?_
    obtain ⟨q4, hres⟩ := am_ck_some hres
    refine am_iald cx dX10_isPerfect_33 (am_ke q2) q4 ?_
    refine am_icmp_ne cx (tgt := 39) dX10_isPerfect_34 (by decide) (fun h => ?_) (fun h => ?_)
    · have hres := am_ifn h hres
      refine am_iincw cx (lv' := [(0, .inr (.inr (.inl r0))), (1, .inl x1), (2, .inl (x2 + (1 : Int32)))]) (w := (1 : Int32)) 2 dX10_isPerfect_39 (by decide) rfl (Nat.le_of_ble_eq_true rfl) rfl ?_
      refine am_goto cx (tgt := 14) dX10_isPerfect_42 (by decide) ?_
      exact hk14 _ _ _ _ hres
    · have hres := am_ifp h hres
      refine am_iconst cx (v := (0 : Int32)) dX10_isPerfect_37 (by decide) ?_
      obtain ⟨rfl, rfl⟩ := am_fin hres
      exact am_zret cx rfl dX10_isPerfect_38
set_option maxRecDepth 20000 in
theorem sn10_isPerfect_b14 {l : Launch} {G : am_G} {v : Int32} {M' : am_Mem} {N : Nat} {k2 : Nat → Int32 → am_Mem → Option (Int32 × am_Mem)} (cx : am_Ctx l rm10_isPerfect yX10_isPerfect cX10_isPerfect 3 (some .boolean) (some (.inl v)) M' 0 0 G) (hk2 : ∀ (r0 : Nat) (x1 : Int32) (M : am_Mem), k2 r0 x1 M = some (v, M') → G 2 [(0, .inr (.inr (.inl r0))), (1, .inl x1)] [] M 0 0) (i : Nat) : ∀ (r0 : Nat) (x1 : Int32) (x2 : Int32) (M : am_Mem), fn10_isPerfect_b14 N k2 i r0 x1 x2 M = some (v, M') → G 14 [(0, .inr (.inr (.inl r0))), (1, .inl x1), (2, .inl x2)] [] M 0 0 := by
  induction i with
  | zero => intro r0 x1 x2 M hres; exact am_no hres
  | succ i ih => intro r0 x1 x2 M hres; exact sn10_isPerfect_b14B cx hk2 ih hres
set_option maxRecDepth 20000 in
theorem sn10_isPerfect_b2B {l : Launch} {G : am_G} {v : Int32} {M' : am_Mem} {N : Nat} {k2 : Nat → Int32 → am_Mem → Option (Int32 × am_Mem)} (cx : am_Ctx l rm10_isPerfect yX10_isPerfect cX10_isPerfect 3 (some .boolean) (some (.inl v)) M' 0 0 G) (hk2 : ∀ (r0 : Nat) (x1 : Int32) (M : am_Mem), k2 r0 x1 M = some (v, M') → G 2 [(0, .inr (.inr (.inl r0))), (1, .inl x1)] [] M 0 0) {r0 : Nat} {x1 : Int32} {M : am_Mem} (hres : fn10_isPerfect_b2B N k2 r0 x1 M = some (v, M')) : G 2 [(0, .inr (.inr (.inl r0))), (1, .inl x1)] [] M 0 0 := by
  unfold fn10_isPerfect_b2B at hres
  refine am_iload_n cx 1 dX10_isPerfect_2 rfl ?_
  refine am_aload_n cx 0 dX10_isPerfect_3 rfl ?_
  obtain ⟨q1, hres⟩ := am_ck_some hres
  refine am_getI cx dX10_isPerfect_4 flX10_32 (am_ke q1) ?_
  refine am_icmp_ge cx (tgt := 51) dX10_isPerfect_7 (by decide) (fun h => ?_) (fun h => ?_)
  · have hres := am_ifp h hres
    refine am_aload_n cx 0 dX10_isPerfect_51 rfl ?_
    refine am_getI cx dX10_isPerfect_52 flX10_32 (am_ke q1) ?_
    refine am_iconst cx (v := (2 : Int32)) dX10_isPerfect_55 (by decide) ?_
    refine am_icmp_lt cx (tgt := 63) dX10_isPerfect_56 (by decide) (fun h => ?_) (fun h => ?_)
    · have hres := am_ifp h hres
      refine am_iconst cx (v := (0 : Int32)) dX10_isPerfect_63 (by decide) ?_
      refine am_sub cx [] rfl ?_
      exact sn10_isPerfect_b64 cx  hres
    · have hres := am_ifn h hres
      refine am_iconst cx (v := (1 : Int32)) dX10_isPerfect_59 (by decide) ?_
      refine am_goto cx (tgt := 64) dX10_isPerfect_60 (by decide) ?_
      refine am_sub cx [] rfl ?_
      exact sn10_isPerfect_b64 cx  hres
  · have hres := am_ifn h hres
    refine am_iload_n cx 1 dX10_isPerfect_10 rfl ?_
    refine am_iconst cx (v := (1 : Int32)) dX10_isPerfect_11 (by decide) ?_
    refine am_iadd cx dX10_isPerfect_12 ?_
    refine am_istore_n cx (lv' := [(0, .inr (.inr (.inl r0))), (1, .inl x1), (2, .inl (x1 + (1 : Int32)))]) dX10_isPerfect_13 (Nat.le_of_ble_eq_true rfl) rfl ?_
    exact sn10_isPerfect_b14 cx hk2 N _ _ _ _ hres
set_option maxRecDepth 20000 in
theorem sn10_isPerfect_b2 {l : Launch} {G : am_G} {v : Int32} {M' : am_Mem} {N : Nat}  (cx : am_Ctx l rm10_isPerfect yX10_isPerfect cX10_isPerfect 3 (some .boolean) (some (.inl v)) M' 0 0 G)  (i : Nat) : ∀ (r0 : Nat) (x1 : Int32) (M : am_Mem), fn10_isPerfect_b2 N  i r0 x1 M = some (v, M') → G 2 [(0, .inr (.inr (.inl r0))), (1, .inl x1)] [] M 0 0 := by
  induction i with
  | zero => intro r0 x1 M hres; exact am_no hres
  | succ i ih => intro r0 x1 M hres; exact sn10_isPerfect_b2B cx ih hres
set_option maxRecDepth 20000 in
theorem sn10_isPerfect_b0 {l : Launch} {G : am_G} {v : Int32} {M' : am_Mem} {N : Nat}  (cx : am_Ctx l rm10_isPerfect yX10_isPerfect cX10_isPerfect 3 (some .boolean) (some (.inl v)) M' 0 0 G)  {r0 : Nat} {M : am_Mem} (hres : fn10_isPerfect_b0 N  r0 M = some (v, M')) : G 0 [(0, .inr (.inr (.inl r0)))] [] M 0 0 := by
  unfold fn10_isPerfect_b0 at hres
  refine am_iconst cx (v := (0 : Int32)) dX10_isPerfect_0 (by decide) ?_
  refine am_istore_n cx (lv' := [(0, .inr (.inr (.inl r0))), (1, .inl (0 : Int32))]) dX10_isPerfect_1 (Nat.le_of_ble_eq_true rfl) rfl ?_
  exact sn10_isPerfect_b2 cx  N _ _ _ hres
set_option maxRecDepth 20000 in
theorem mt10_isPerfect {l : Launch} {v : Int32} {M M' : am_Mem} {N : Nat} {r0 : Nat} (h : fn10_isPerfect N M r0 = some (v, M')) : am_Met l yX10_isPerfect cX10_isPerfect 3 (some .boolean) rm10_isPerfect 0 0 [.inr (.inr (.inl r0))] M (some (.inl v)) M' := am_mk (by decide) (Nat.le_of_ble_eq_true rfl) (fun G cx => (sn10_isPerfect_b0 cx h))
-- SquareCuts$Tiling.firstSmallest
def fn10_firstSmallest_b29 (N : Nat) (k4 : Nat → Int32 → Int32 → am_Mem → Option (Int32 × am_Mem)) (r0 : Nat) (x1 : Int32) (x2 : Int32) (M : am_Mem) : Option (Int32 × am_Mem) :=
  k4 r0 x1 (x2 + (1 : Int32)) M
def fn10_firstSmallest_b4B (N : Nat) (k4 : Nat → Int32 → Int32 → am_Mem → Option (Int32 × am_Mem)) (r0 : Nat) (x1 : Int32) (x2 : Int32) (M : am_Mem) : Option (Int32 × am_Mem) :=
  am_ck (am_k M r0 10) (if (am_I M r0 4) ≤ x2 then some (x1, M) else am_ck (am_k M (am_R M r0 9) 14) (am_ck (am_in x2 (am_L M (am_R M r0 9))) (am_ck (am_in x1 (am_L M (am_R M r0 9))) (if (am_I M (am_R M r0 9) x1.toNatClampNeg) ≤ (am_I M (am_R M r0 9) x2.toNatClampNeg) then fn10_firstSmallest_b29 N k4 r0 x1 x2 M else fn10_firstSmallest_b29 N k4 r0 x2 x2 M))))
def fn10_firstSmallest_b4 (N : Nat)  : Nat → Nat → Int32 → Int32 → am_Mem → Option (Int32 × am_Mem)
  | 0 => fun _ _ _ _ => none
  | i + 1 => fn10_firstSmallest_b4B N (fn10_firstSmallest_b4 N  i)
def fn10_firstSmallest_b0 (N : Nat)  (r0 : Nat) (M : am_Mem) : Option (Int32 × am_Mem) :=
  fn10_firstSmallest_b4 N  N r0 (0 : Int32) (1 : Int32) M
def fn10_firstSmallest (N : Nat) (M : am_Mem) (r0 : Nat) : Option (Int32 × am_Mem) := fn10_firstSmallest_b0 N r0 M
def rm10_firstSmallest : Room := { frames := 0, cells := 0, slots := 0, locals := 0 }
set_option maxRecDepth 20000 in
theorem sn10_firstSmallest_b29 {l : Launch} {G : am_G} {v : Int32} {M' : am_Mem} {N : Nat} {k4 : Nat → Int32 → Int32 → am_Mem → Option (Int32 × am_Mem)} (cx : am_Ctx l rm10_firstSmallest yX10_firstSmallest cX10_firstSmallest 3 (some .int) (some (.inl v)) M' 0 0 G) (hk4 : ∀ (r0 : Nat) (x1 : Int32) (x2 : Int32) (M : am_Mem), k4 r0 x1 x2 M = some (v, M') → G 4 [(0, .inr (.inr (.inl r0))), (1, .inl x1), (2, .inl x2)] [] M 0 0) {r0 : Nat} {x1 : Int32} {x2 : Int32} {M : am_Mem} (hres : fn10_firstSmallest_b29 N k4 r0 x1 x2 M = some (v, M')) : G 29 [(0, .inr (.inr (.inl r0))), (1, .inl x1), (2, .inl x2)] [] M 0 0 := by
  unfold fn10_firstSmallest_b29 at hres
  refine am_iincw cx (lv' := [(0, .inr (.inr (.inl r0))), (1, .inl x1), (2, .inl (x2 + (1 : Int32)))]) (w := (1 : Int32)) 2 dX10_firstSmallest_29 (by decide) rfl (Nat.le_of_ble_eq_true rfl) rfl ?_
  refine am_goto cx (tgt := 4) dX10_firstSmallest_32 (by decide) ?_
  exact hk4 _ _ _ _ hres
set_option maxRecDepth 20000 in
theorem sn10_firstSmallest_b4B {l : Launch} {G : am_G} {v : Int32} {M' : am_Mem} {N : Nat} {k4 : Nat → Int32 → Int32 → am_Mem → Option (Int32 × am_Mem)} (cx : am_Ctx l rm10_firstSmallest yX10_firstSmallest cX10_firstSmallest 3 (some .int) (some (.inl v)) M' 0 0 G) (hk4 : ∀ (r0 : Nat) (x1 : Int32) (x2 : Int32) (M : am_Mem), k4 r0 x1 x2 M = some (v, M') → G 4 [(0, .inr (.inr (.inl r0))), (1, .inl x1), (2, .inl x2)] [] M 0 0) {r0 : Nat} {x1 : Int32} {x2 : Int32} {M : am_Mem} (hres : fn10_firstSmallest_b4B N k4 r0 x1 x2 M = some (v, M')) : G 4 [(0, .inr (.inr (.inl r0))), (1, .inl x1), (2, .inl x2)] [] M 0 0 := by
  unfold fn10_firstSmallest_b4B at hres
  refine am_iload_n cx 2 dX10_firstSmallest_4 rfl ?_
  refine am_aload_n cx 0 dX10_firstSmallest_5 rfl ?_
  obtain ⟨q1, hres⟩ := am_ck_some hres
  refine am_getI cx dX10_firstSmallest_6 flX10_32 (am_ke q1) ?_
  refine am_icmp_ge cx (tgt := 35) dX10_firstSmallest_9 (by decide) (fun h => ?_) (fun h => ?_)
  · have hres := am_ifp h hres
    refine am_iload_n cx 1 dX10_firstSmallest_35 rfl ?_
    obtain ⟨rfl, rfl⟩ := am_fin hres
    exact am_iret cx dX10_firstSmallest_36
  · have hres := am_ifn h hres
    refine am_aload_n cx 0 dX10_firstSmallest_12 rfl ?_
    refine am_getR cx dX10_firstSmallest_13 flX10_48 (am_ke q1) ?_
    refine am_iload_n cx 2 dX10_firstSmallest_16 rfl ?_
    obtain ⟨q2, hres⟩ := am_ck_some hres
    obtain ⟨q3, hres⟩ := am_ck_some hres
    refine am_iald cx dX10_firstSmallest_17 (am_ke q2) q3 ?_
    refine am_aload_n cx 0 dX10_firstSmallest_18 rfl ?_
    refine am_getR cx dX10_firstSmallest_19 flX10_48 (am_ke q1) ?_
    refine am_iload_n cx 1 dX10_firstSmallest_22 rfl ?_
    obtain ⟨q4, hres⟩ := am_ck_some hres
    refine am_iald cx dX10_firstSmallest_23 (am_ke q2) q4 ?_
    refine am_icmp_ge cx (tgt := 29) dX10_firstSmallest_24 (by decide) (fun h => ?_) (fun h => ?_)
    · have hres := am_ifp h hres
      exact sn10_firstSmallest_b29 cx hk4 hres
    · have hres := am_ifn h hres
      refine am_iload_n cx 2 dX10_firstSmallest_27 rfl ?_
      refine am_istore_n cx (lv' := [(0, .inr (.inr (.inl r0))), (1, .inl x2), (2, .inl x2)]) dX10_firstSmallest_28 (Nat.le_of_ble_eq_true rfl) rfl ?_
      exact sn10_firstSmallest_b29 cx hk4 hres
set_option maxRecDepth 20000 in
theorem sn10_firstSmallest_b4 {l : Launch} {G : am_G} {v : Int32} {M' : am_Mem} {N : Nat}  (cx : am_Ctx l rm10_firstSmallest yX10_firstSmallest cX10_firstSmallest 3 (some .int) (some (.inl v)) M' 0 0 G)  (i : Nat) : ∀ (r0 : Nat) (x1 : Int32) (x2 : Int32) (M : am_Mem), fn10_firstSmallest_b4 N  i r0 x1 x2 M = some (v, M') → G 4 [(0, .inr (.inr (.inl r0))), (1, .inl x1), (2, .inl x2)] [] M 0 0 := by
  induction i with
  | zero => intro r0 x1 x2 M hres; exact am_no hres
  | succ i ih => intro r0 x1 x2 M hres; exact sn10_firstSmallest_b4B cx ih hres
set_option maxRecDepth 20000 in
theorem sn10_firstSmallest_b0 {l : Launch} {G : am_G} {v : Int32} {M' : am_Mem} {N : Nat}  (cx : am_Ctx l rm10_firstSmallest yX10_firstSmallest cX10_firstSmallest 3 (some .int) (some (.inl v)) M' 0 0 G)  {r0 : Nat} {M : am_Mem} (hres : fn10_firstSmallest_b0 N  r0 M = some (v, M')) : G 0 [(0, .inr (.inr (.inl r0)))] [] M 0 0 := by
  unfold fn10_firstSmallest_b0 at hres
  refine am_iconst cx (v := (0 : Int32)) dX10_firstSmallest_0 (by decide) ?_
  refine am_istore_n cx (lv' := [(0, .inr (.inr (.inl r0))), (1, .inl (0 : Int32))]) dX10_firstSmallest_1 (Nat.le_of_ble_eq_true rfl) rfl ?_
  refine am_iconst cx (v := (1 : Int32)) dX10_firstSmallest_2 (by decide) ?_
  refine am_istore_n cx (lv' := [(0, .inr (.inr (.inl r0))), (1, .inl (0 : Int32)), (2, .inl (1 : Int32))]) dX10_firstSmallest_3 (Nat.le_of_ble_eq_true rfl) rfl ?_
  exact sn10_firstSmallest_b4 cx  N _ _ _ _ hres
set_option maxRecDepth 20000 in
theorem mt10_firstSmallest {l : Launch} {v : Int32} {M M' : am_Mem} {N : Nat} {r0 : Nat} (h : fn10_firstSmallest N M r0 = some (v, M')) : am_Met l yX10_firstSmallest cX10_firstSmallest 3 (some .int) rm10_firstSmallest 0 0 [.inr (.inr (.inl r0))] M (some (.inl v)) M' := am_mk (by decide) (Nat.le_of_ble_eq_true rfl) (fun G cx => (sn10_firstSmallest_b0 cx h))
-- SquareCuts$Tiling.startsGroup
def fn10_startsGroup_b42  (a0 : Int32) (M : am_Mem) : Option (Int32 × am_Mem) :=
  am_ck (a0 == 0 || a0 == 1) (some (a0, M))
def fn10_startsGroup_b37   (M : am_Mem) : Option (Int32 × am_Mem) :=
  fn10_startsGroup_b42  (1 : Int32) M
def fn10_startsGroup_b0  (r0 : Nat) (x1 : Int32) (M : am_Mem) : Option (Int32 × am_Mem) :=
  if x1 = 0 then fn10_startsGroup_b37   M else am_ck (am_k M r0 10) (am_ck (am_k M (am_R M r0 8) 14) (am_ck (am_in x1 (am_L M (am_R M r0 8))) (am_ck (am_in (x1 - (1 : Int32)) (am_L M (am_R M r0 8))) (if (am_I M (am_R M r0 8) x1.toNatClampNeg) = (am_I M (am_R M r0 8) (x1 - (1 : Int32)).toNatClampNeg) then am_ck (am_k M (am_R M r0 7) 14) (am_ck (am_in x1 (am_L M (am_R M r0 7))) (am_bd (fn10_right M r0 (x1 - (1 : Int32))) (fun v7 M8 => if (am_I M (am_R M r0 7) x1.toNatClampNeg) = v7 then fn10_startsGroup_b42  (0 : Int32) M8 else fn10_startsGroup_b37   M8))) else fn10_startsGroup_b37   M))))
def fn10_startsGroup (M : am_Mem) (r0 : Nat) (x1 : Int32) : Option (Int32 × am_Mem) := fn10_startsGroup_b0  r0 x1 M
def rm10_startsGroup : Room := { frames := 1, cells := 0, slots := 0, locals := 21 }
set_option maxRecDepth 20000 in
theorem sn10_startsGroup_b42 {l : Launch} {G : am_G} {v : Int32} {M' : am_Mem}  (cx : am_Ctx l rm10_startsGroup yX10_startsGroup cX10_startsGroup 2 (some .boolean) (some (.inl v)) M' 0 0 G)  {a0 : Int32} {M : am_Mem} (hres : fn10_startsGroup_b42  a0 M = some (v, M')) : G 42 [] [.inl a0] M 0 0 := by
  unfold fn10_startsGroup_b42 at hres
  obtain ⟨q1, hres⟩ := am_ck_some hres
  obtain ⟨rfl, rfl⟩ := am_fin hres
  exact am_zret cx q1 dX10_startsGroup_42
set_option maxRecDepth 20000 in
theorem sn10_startsGroup_b37 {l : Launch} {G : am_G} {v : Int32} {M' : am_Mem}  (cx : am_Ctx l rm10_startsGroup yX10_startsGroup cX10_startsGroup 2 (some .boolean) (some (.inl v)) M' 0 0 G)   {M : am_Mem} (hres : fn10_startsGroup_b37   M = some (v, M')) : G 37 [] [] M 0 0 := by
  unfold fn10_startsGroup_b37 at hres
  refine am_iconst cx (v := (1 : Int32)) dX10_startsGroup_37 (by decide) ?_
  refine am_goto cx (tgt := 42) dX10_startsGroup_38 (by decide) ?_
  exact sn10_startsGroup_b42 cx  hres
set_option maxRecDepth 20000 in
theorem sn10_startsGroup_b0 {l : Launch} {G : am_G} {v : Int32} {M' : am_Mem}  (cx : am_Ctx l rm10_startsGroup yX10_startsGroup cX10_startsGroup 2 (some .boolean) (some (.inl v)) M' 0 0 G)  {r0 : Nat} {x1 : Int32} {M : am_Mem} (hres : fn10_startsGroup_b0  r0 x1 M = some (v, M')) : G 0 [(0, .inr (.inr (.inl r0))), (1, .inl x1)] [] M 0 0 := by
  unfold fn10_startsGroup_b0 at hres
  refine am_iload_n cx 1 dX10_startsGroup_0 rfl ?_
  refine am_if_eq cx (tgt := 37) dX10_startsGroup_1 (by decide) (fun h => ?_) (fun h => ?_)
  · have hres := am_ifp h hres
    refine am_sub cx [] rfl ?_
    exact sn10_startsGroup_b37 cx  hres
  · have hres := am_ifn h hres
    refine am_aload_n cx 0 dX10_startsGroup_4 rfl ?_
    obtain ⟨q1, hres⟩ := am_ck_some hres
    refine am_getR cx dX10_startsGroup_5 flX10_45 (am_ke q1) ?_
    refine am_iload_n cx 1 dX10_startsGroup_8 rfl ?_
    obtain ⟨q2, hres⟩ := am_ck_some hres
    obtain ⟨q3, hres⟩ := am_ck_some hres
    refine am_iald cx dX10_startsGroup_9 (am_ke q2) q3 ?_
    refine am_aload_n cx 0 dX10_startsGroup_10 rfl ?_
    refine am_getR cx dX10_startsGroup_11 flX10_45 (am_ke q1) ?_
    refine am_iload_n cx 1 dX10_startsGroup_14 rfl ?_
    refine am_iconst cx (v := (1 : Int32)) dX10_startsGroup_15 (by decide) ?_
    refine am_isub cx dX10_startsGroup_16 ?_
    obtain ⟨q4, hres⟩ := am_ck_some hres
    refine am_iald cx dX10_startsGroup_17 (am_ke q2) q4 ?_
    refine am_icmp_ne cx (tgt := 37) dX10_startsGroup_18 (by decide) (fun h => ?_) (fun h => ?_)
    · have hres := am_ifn h hres
      refine am_sub cx [] rfl ?_
      exact sn10_startsGroup_b37 cx  hres
    · have hres := am_ifp h hres
      refine am_aload_n cx 0 dX10_startsGroup_21 rfl ?_
      refine am_getR cx dX10_startsGroup_22 flX10_41 (am_ke q1) ?_
      refine am_iload_n cx 1 dX10_startsGroup_25 rfl ?_
      obtain ⟨q5, hres⟩ := am_ck_some hres
      obtain ⟨q6, hres⟩ := am_ck_some hres
      refine am_iald cx dX10_startsGroup_26 (am_ke q5) q6 ?_
      refine am_aload_n cx 0 dX10_startsGroup_27 rfl ?_
      refine am_iload_n cx 1 dX10_startsGroup_28 rfl ?_
      refine am_iconst cx (v := (1 : Int32)) dX10_startsGroup_29 (by decide) ?_
      refine am_isub cx dX10_startsGroup_30 ?_
      obtain ⟨v7, M8, q9, hres⟩ := am_bd_some hres
      refine am_callV1 cx [.inl (x1 - (1 : Int32))] dX10_startsGroup_31 cvX10_60 (mt10_right q9) (am_ke q1) ⟨rfl, rfl, Nat.le_of_ble_eq_true rfl, Nat.le_of_ble_eq_true rfl⟩ rfl (Nat.le_of_ble_eq_true rfl) ⟨Nat.le_of_ble_eq_true rfl, Nat.le_of_ble_eq_true rfl⟩ ?_
      refine am_icmp_eq cx (tgt := 41) dX10_startsGroup_34 (by decide) (fun h => ?_) (fun h => ?_)
      · have hres := am_ifp h hres
        refine am_iconst cx (v := (0 : Int32)) dX10_startsGroup_41 (by decide) ?_
        refine am_sub cx [] rfl ?_
        exact sn10_startsGroup_b42 cx  hres
      · have hres := am_ifn h hres
        refine am_sub cx [] rfl ?_
        exact sn10_startsGroup_b37 cx  hres
set_option maxRecDepth 20000 in
theorem mt10_startsGroup {l : Launch} {v : Int32} {M M' : am_Mem} {r0 : Nat} {x1 : Int32} (h : fn10_startsGroup M r0 x1 = some (v, M')) : am_Met l yX10_startsGroup cX10_startsGroup 2 (some .boolean) rm10_startsGroup 0 0 [.inr (.inr (.inl r0)), .inl x1] M (some (.inl v)) M' := am_mk (by decide) (Nat.le_of_ble_eq_true rfl) (fun G cx => (sn10_startsGroup_b0 cx h))
-- SquareCuts$Tiling.codeGroups
def fn10_codeGroups_b28 (N : Nat) (k4 : Nat → Int32 → Int32 → am_Mem → Option (Int32 × am_Mem)) (r0 : Nat) (x1 : Int32) (x2 : Int32) (M : am_Mem) : Option (Int32 × am_Mem) :=
  k4 r0 x1 (x2 + (1 : Int32)) M
def fn10_codeGroups_b26 (N : Nat) (k4 : Nat → Int32 → Int32 → am_Mem → Option (Int32 × am_Mem)) (a0 : Int32) (a1 : Int32) (r0 : Nat) (x2 : Int32) (M : am_Mem) : Option (Int32 × am_Mem) :=
  fn10_codeGroups_b28 N k4 r0 (a0 + a1) x2 M
def fn10_codeGroups_b4B (N : Nat) (k4 : Nat → Int32 → Int32 → am_Mem → Option (Int32 × am_Mem)) (r0 : Nat) (x1 : Int32) (x2 : Int32) (M : am_Mem) : Option (Int32 × am_Mem) :=
  am_ck (am_k M r0 10) (if (am_I M r0 4) ≤ x2 then some (x1, M) else am_bd (fn10_startsGroup M r0 x2) (fun v2 M3 => if v2 = 0 then fn10_codeGroups_b26 N k4 x1 (0 : Int32) r0 x2 M3 else fn10_codeGroups_b26 N k4 x1 (1 : Int32) r0 x2 M3))
def fn10_codeGroups_b4 (N : Nat)  : Nat → Nat → Int32 → Int32 → am_Mem → Option (Int32 × am_Mem)
  | 0 => fun _ _ _ _ => none
  | i + 1 => fn10_codeGroups_b4B N (fn10_codeGroups_b4 N  i)
def fn10_codeGroups_b0 (N : Nat)  (r0 : Nat) (M : am_Mem) : Option (Int32 × am_Mem) :=
  fn10_codeGroups_b4 N  N r0 (0 : Int32) (0 : Int32) M
def fn10_codeGroups (N : Nat) (M : am_Mem) (r0 : Nat) : Option (Int32 × am_Mem) := fn10_codeGroups_b0 N r0 M
def rm10_codeGroups : Room := { frames := 2, cells := 0, slots := 0, locals := 42 }
set_option maxRecDepth 20000 in
theorem sn10_codeGroups_b28 {l : Launch} {G : am_G} {v : Int32} {M' : am_Mem} {N : Nat} {k4 : Nat → Int32 → Int32 → am_Mem → Option (Int32 × am_Mem)} (cx : am_Ctx l rm10_codeGroups yX10_codeGroups cX10_codeGroups 3 (some .int) (some (.inl v)) M' 0 0 G) (hk4 : ∀ (r0 : Nat) (x1 : Int32) (x2 : Int32) (M : am_Mem), k4 r0 x1 x2 M = some (v, M') → G 4 [(0, .inr (.inr (.inl r0))), (1, .inl x1), (2, .inl x2)] [] M 0 0) {r0 : Nat} {x1 : Int32} {x2 : Int32} {M : am_Mem} (hres : fn10_codeGroups_b28 N k4 r0 x1 x2 M = some (v, M')) : G 28 [(0, .inr (.inr (.inl r0))), (1, .inl x1), (2, .inl x2)] [] M 0 0 := by
  unfold fn10_codeGroups_b28 at hres
  refine am_iincw cx (lv' := [(0, .inr (.inr (.inl r0))), (1, .inl x1), (2, .inl (x2 + (1 : Int32)))]) (w := (1 : Int32)) 2 dX10_codeGroups_28 (by decide) rfl (Nat.le_of_ble_eq_true rfl) rfl ?_
  refine am_goto cx (tgt := 4) dX10_codeGroups_31 (by decide) ?_
  exact hk4 _ _ _ _ hres
set_option maxRecDepth 20000 in
theorem sn10_codeGroups_b26 {l : Launch} {G : am_G} {v : Int32} {M' : am_Mem} {N : Nat} {k4 : Nat → Int32 → Int32 → am_Mem → Option (Int32 × am_Mem)} (cx : am_Ctx l rm10_codeGroups yX10_codeGroups cX10_codeGroups 3 (some .int) (some (.inl v)) M' 0 0 G) (hk4 : ∀ (r0 : Nat) (x1 : Int32) (x2 : Int32) (M : am_Mem), k4 r0 x1 x2 M = some (v, M') → G 4 [(0, .inr (.inr (.inl r0))), (1, .inl x1), (2, .inl x2)] [] M 0 0) {a0 : Int32} {a1 : Int32} {r0 : Nat} {x2 : Int32} {M : am_Mem} (hres : fn10_codeGroups_b26 N k4 a0 a1 r0 x2 M = some (v, M')) : G 26 [(0, .inr (.inr (.inl r0))), (2, .inl x2)] [.inl a1, .inl a0] M 0 0 := by
  unfold fn10_codeGroups_b26 at hres
  refine am_iadd cx dX10_codeGroups_26 ?_
  refine am_istore_n cx (lv' := [(0, .inr (.inr (.inl r0))), (1, .inl (a0 + a1)), (2, .inl x2)]) dX10_codeGroups_27 (Nat.le_of_ble_eq_true rfl) rfl ?_
  exact sn10_codeGroups_b28 cx hk4 hres
set_option maxRecDepth 20000 in
theorem sn10_codeGroups_b4B {l : Launch} {G : am_G} {v : Int32} {M' : am_Mem} {N : Nat} {k4 : Nat → Int32 → Int32 → am_Mem → Option (Int32 × am_Mem)} (cx : am_Ctx l rm10_codeGroups yX10_codeGroups cX10_codeGroups 3 (some .int) (some (.inl v)) M' 0 0 G) (hk4 : ∀ (r0 : Nat) (x1 : Int32) (x2 : Int32) (M : am_Mem), k4 r0 x1 x2 M = some (v, M') → G 4 [(0, .inr (.inr (.inl r0))), (1, .inl x1), (2, .inl x2)] [] M 0 0) {r0 : Nat} {x1 : Int32} {x2 : Int32} {M : am_Mem} (hres : fn10_codeGroups_b4B N k4 r0 x1 x2 M = some (v, M')) : G 4 [(0, .inr (.inr (.inl r0))), (1, .inl x1), (2, .inl x2)] [] M 0 0 := by
  unfold fn10_codeGroups_b4B at hres
  refine am_iload_n cx 2 dX10_codeGroups_4 rfl ?_
  refine am_aload_n cx 0 dX10_codeGroups_5 rfl ?_
  obtain ⟨q1, hres⟩ := am_ck_some hres
  refine am_getI cx dX10_codeGroups_6 flX10_32 (am_ke q1) ?_
  refine am_icmp_ge cx (tgt := 34) dX10_codeGroups_9 (by decide) (fun h => ?_) (fun h => ?_)
  · have hres := am_ifp h hres
    refine am_iload_n cx 1 dX10_codeGroups_34 rfl ?_
    obtain ⟨rfl, rfl⟩ := am_fin hres
    exact am_iret cx dX10_codeGroups_35
  · have hres := am_ifn h hres
    refine am_iload_n cx 1 dX10_codeGroups_12 rfl ?_
    refine am_aload_n cx 0 dX10_codeGroups_13 rfl ?_
    refine am_iload_n cx 2 dX10_codeGroups_14 rfl ?_
    obtain ⟨v2, M3, q4, hres⟩ := am_bd_some hres
    refine am_callV1 cx [.inl x2] dX10_codeGroups_15 cvX10_64 (mt10_startsGroup q4) (am_ke q1) ⟨rfl, rfl, Nat.le_of_ble_eq_true rfl, Nat.le_of_ble_eq_true rfl⟩ rfl (Nat.le_of_ble_eq_true rfl) ⟨Nat.le_of_ble_eq_true rfl, Nat.le_of_ble_eq_true rfl⟩ ?_
    refine am_if_eq cx (tgt := 25) dX10_codeGroups_18 (by decide) (fun h => ?_) (fun h => ?_)
    · have hres := am_ifp h hres
      refine am_iconst cx (v := (0 : Int32)) dX10_codeGroups_25 (by decide) ?_
      refine am_sub cx [0, 2] rfl ?_
      exact sn10_codeGroups_b26 cx hk4 hres
    · have hres := am_ifn h hres
      refine am_iconst cx (v := (1 : Int32)) dX10_codeGroups_21 (by decide) ?_
      refine am_goto cx (tgt := 26) dX10_codeGroups_22 (by decide) ?_
      refine am_sub cx [0, 2] rfl ?_
      exact sn10_codeGroups_b26 cx hk4 hres
set_option maxRecDepth 20000 in
theorem sn10_codeGroups_b4 {l : Launch} {G : am_G} {v : Int32} {M' : am_Mem} {N : Nat}  (cx : am_Ctx l rm10_codeGroups yX10_codeGroups cX10_codeGroups 3 (some .int) (some (.inl v)) M' 0 0 G)  (i : Nat) : ∀ (r0 : Nat) (x1 : Int32) (x2 : Int32) (M : am_Mem), fn10_codeGroups_b4 N  i r0 x1 x2 M = some (v, M') → G 4 [(0, .inr (.inr (.inl r0))), (1, .inl x1), (2, .inl x2)] [] M 0 0 := by
  induction i with
  | zero => intro r0 x1 x2 M hres; exact am_no hres
  | succ i ih => intro r0 x1 x2 M hres; exact sn10_codeGroups_b4B cx ih hres
set_option maxRecDepth 20000 in
theorem sn10_codeGroups_b0 {l : Launch} {G : am_G} {v : Int32} {M' : am_Mem} {N : Nat}  (cx : am_Ctx l rm10_codeGroups yX10_codeGroups cX10_codeGroups 3 (some .int) (some (.inl v)) M' 0 0 G)  {r0 : Nat} {M : am_Mem} (hres : fn10_codeGroups_b0 N  r0 M = some (v, M')) : G 0 [(0, .inr (.inr (.inl r0)))] [] M 0 0 := by
  unfold fn10_codeGroups_b0 at hres
  refine am_iconst cx (v := (0 : Int32)) dX10_codeGroups_0 (by decide) ?_
  refine am_istore_n cx (lv' := [(0, .inr (.inr (.inl r0))), (1, .inl (0 : Int32))]) dX10_codeGroups_1 (Nat.le_of_ble_eq_true rfl) rfl ?_
  refine am_iconst cx (v := (0 : Int32)) dX10_codeGroups_2 (by decide) ?_
  refine am_istore_n cx (lv' := [(0, .inr (.inr (.inl r0))), (1, .inl (0 : Int32)), (2, .inl (0 : Int32))]) dX10_codeGroups_3 (Nat.le_of_ble_eq_true rfl) rfl ?_
  exact sn10_codeGroups_b4 cx  N _ _ _ _ hres
set_option maxRecDepth 20000 in
theorem mt10_codeGroups {l : Launch} {v : Int32} {M M' : am_Mem} {N : Nat} {r0 : Nat} (h : fn10_codeGroups N M r0 = some (v, M')) : am_Met l yX10_codeGroups cX10_codeGroups 3 (some .int) rm10_codeGroups 0 0 [.inr (.inr (.inl r0))] M (some (.inl v)) M' := am_mk (by decide) (Nat.le_of_ble_eq_true rfl) (fun G cx => (sn10_codeGroups_b0 cx h))
-- SquareCuts$Tiling.isPart
def fn10_isPart_b70 (N : Nat)   (M : am_Mem) : Option (Int32 × am_Mem) :=
  some ((0 : Int32), M)
def fn10_isPart_b226 (N : Nat)  (a0 : Int32) (M : am_Mem) : Option (Int32 × am_Mem) :=
  am_ck (a0 == 0 || a0 == 1) (some (a0, M))
def fn10_isPart_b206 (N : Nat) (k78 : Nat → Int32 → Int32 → Int32 → Int32 → Int32 → Int32 → am_Mem → Option (Int32 × am_Mem)) (r0 : Nat) (x3 : Int32) (x4 : Int32) (x5 : Int32) (x6 : Int32) (x7 : Int32) (x8 : Int32) (M : am_Mem) : Option (Int32 × am_Mem) :=
  k78 r0 x3 x4 x5 x6 x7 (x8 + (1 : Int32)) M
def fn10_isPart_b203 (N : Nat) (k78 : Nat → Int32 → Int32 → Int32 → Int32 → Int32 → Int32 → am_Mem → Option (Int32 × am_Mem)) (a0 : Int32) (a1 : Int32) (r0 : Nat) (x3 : Int32) (x4 : Int32) (x5 : Int32) (x6 : Int32) (x8 : Int32) (M : am_Mem) : Option (Int32 × am_Mem) :=
  fn10_isPart_b206 N k78 r0 x3 x4 x5 x6 (a0 + a1) x8 M
def fn10_isPart_b191 (N : Nat) (k78 : Nat → Int32 → Int32 → Int32 → Int32 → Int32 → Int32 → am_Mem → Option (Int32 × am_Mem)) (r0 : Nat) (x3 : Int32) (x4 : Int32) (x5 : Int32) (x6 : Int32) (x7 : Int32) (x8 : Int32) (x9 : Int32) (M : am_Mem) : Option (Int32 × am_Mem) :=
  if x9 = 0 then fn10_isPart_b203 N k78 x7 (0 : Int32) r0 x3 x4 x5 x6 x8 M else fn10_isPart_b203 N k78 x7 (1 : Int32) r0 x3 x4 x5 x6 x8 M
def fn10_isPart_b189 (N : Nat)   (M : am_Mem) : Option (Int32 × am_Mem) :=
  some ((0 : Int32), M)
def fn10_isPart_b137 (N : Nat) (k78 : Nat → Int32 → Int32 → Int32 → Int32 → Int32 → Int32 → am_Mem → Option (Int32 × am_Mem)) (a0 : Int32) (r0 : Nat) (x3 : Int32) (x4 : Int32) (x5 : Int32) (x6 : Int32) (x7 : Int32) (x8 : Int32) (M : am_Mem) : Option (Int32 × am_Mem) :=
  if a0 = 0 then fn10_isPart_b191 N k78 r0 x3 x4 x5 x6 x7 x8 a0 M else am_ck (am_k M r0 10) (am_ck (am_k M (am_R M r0 7) 14) (am_ck (am_in x8 (am_L M (am_R M r0 7))) (if (am_I M (am_R M r0 7) x8.toNatClampNeg) < x3 then fn10_isPart_b189 N   M else am_bd (fn10_right M r0 x8) (fun v4 M5 => if x5 < v4 then fn10_isPart_b189 N   M5 else am_ck (am_k M5 r0 10) (am_ck (am_k M5 (am_R M5 r0 8) 14) (am_ck (am_in x8 (am_L M5 (am_R M5 r0 8))) (if (am_I M5 (am_R M5 r0 8) x8.toNatClampNeg) < x4 then fn10_isPart_b189 N   M5 else am_bd (fn10_bottom M5 r0 x8) (fun v10 M11 => if v10 ≤ x6 then fn10_isPart_b191 N k78 r0 x3 x4 x5 x6 x7 x8 a0 M11 else fn10_isPart_b189 N   M11))))))))
def fn10_isPart_b136 (N : Nat) (k78 : Nat → Int32 → Int32 → Int32 → Int32 → Int32 → Int32 → am_Mem → Option (Int32 × am_Mem)) (r0 : Nat) (x3 : Int32) (x4 : Int32) (x5 : Int32) (x6 : Int32) (x7 : Int32) (x8 : Int32) (M : am_Mem) : Option (Int32 × am_Mem) :=
  fn10_isPart_b137 N k78 (0 : Int32) r0 x3 x4 x5 x6 x7 x8 M
def fn10_isPart_b78B (N : Nat) (k78 : Nat → Int32 → Int32 → Int32 → Int32 → Int32 → Int32 → am_Mem → Option (Int32 × am_Mem)) (r0 : Nat) (x3 : Int32) (x4 : Int32) (x5 : Int32) (x6 : Int32) (x7 : Int32) (x8 : Int32) (M : am_Mem) : Option (Int32 × am_Mem) :=
  am_ck (am_k M r0 10) (if (am_I M r0 4) ≤ x8 then if (am_I M r0 4) ≤ x7 then fn10_isPart_b226 N  (0 : Int32) M else fn10_isPart_b226 N  (1 : Int32) M else am_ck (am_k M (am_R M r0 7) 14) (am_ck (am_in x8 (am_L M (am_R M r0 7))) (if x5 ≤ (am_I M (am_R M r0 7) x8.toNatClampNeg) then fn10_isPart_b136 N k78 r0 x3 x4 x5 x6 x7 x8 M else am_bd (fn10_right M r0 x8) (fun v4 M5 => if v4 ≤ x3 then fn10_isPart_b136 N k78 r0 x3 x4 x5 x6 x7 x8 M5 else am_ck (am_k M5 r0 10) (am_ck (am_k M5 (am_R M5 r0 8) 14) (am_ck (am_in x8 (am_L M5 (am_R M5 r0 8))) (if x6 ≤ (am_I M5 (am_R M5 r0 8) x8.toNatClampNeg) then fn10_isPart_b136 N k78 r0 x3 x4 x5 x6 x7 x8 M5 else am_bd (fn10_bottom M5 r0 x8) (fun v10 M11 => if v10 ≤ x4 then fn10_isPart_b136 N k78 r0 x3 x4 x5 x6 x7 x8 M11 else fn10_isPart_b137 N k78 (1 : Int32) r0 x3 x4 x5 x6 x7 x8 M11))))))))
def fn10_isPart_b78 (N : Nat)  : Nat → Nat → Int32 → Int32 → Int32 → Int32 → Int32 → Int32 → am_Mem → Option (Int32 × am_Mem)
  | 0 => fun _ _ _ _ _ _ _ _ => none
  | i + 1 => fn10_isPart_b78B N (fn10_isPart_b78 N  i)
def fn10_isPart_b15 (N : Nat)  (r0 : Nat) (x1 : Int32) (x2 : Int32) (x3 : Int32) (x4 : Int32) (M : am_Mem) : Option (Int32 × am_Mem) :=
  am_ck (am_k M r0 10) (am_bd (fn10_right M r0 x2) (fun v2 M3 => am_ck (am_k M3 r0 10) (am_bd (fn10_bottom M3 r0 x2) (fun v6 M7 => am_ck (am_k M7 r0 10) (am_bd (fn10_right M7 r0 x1) (fun v10 M11 => if v2 < v10 then fn10_isPart_b70 N   M11 else am_ck (am_k M11 r0 10) (am_bd (fn10_bottom M11 r0 x1) (fun v14 M15 => if v6 < v14 then fn10_isPart_b70 N   M15 else am_ck (am_k M15 r0 10) (am_ck (am_k M15 (am_R M15 r0 7) 14) (am_ck (am_in x2 (am_L M15 (am_R M15 r0 7))) (if (am_I M15 (am_R M15 r0 7) x2.toNatClampNeg) < x3 then fn10_isPart_b70 N   M15 else am_ck (am_k M15 (am_R M15 r0 8) 14) (am_ck (am_in x2 (am_L M15 (am_R M15 r0 8))) (if x4 ≤ (am_I M15 (am_R M15 r0 8) x2.toNatClampNeg) then fn10_isPart_b78 N  N r0 x3 x4 v2 v6 (0 : Int32) (0 : Int32) M15 else fn10_isPart_b70 N   M15)))))))))))))
def fn10_isPart_b7 (N : Nat)  (r0 : Nat) (x1 : Int32) (x2 : Int32) (x3 : Int32) (M : am_Mem) : Option (Int32 × am_Mem) :=
  am_ck (am_k M r0 10) (am_ck (am_k M (am_R M r0 8) 14) (am_ck (am_in x1 (am_L M (am_R M r0 8))) (fn10_isPart_b15 N  r0 x1 x2 x3 (am_I M (am_R M r0 8) x1.toNatClampNeg) M)))
def fn10_isPart_b0 (N : Nat)  (r0 : Nat) (x1 : Int32) (x2 : Int32) (M : am_Mem) : Option (Int32 × am_Mem) :=
  am_ck (am_k M r0 10) (am_ck (am_k M (am_R M r0 7) 14) (am_ck (am_in x1 (am_L M (am_R M r0 7))) (fn10_isPart_b7 N  r0 x1 x2 (am_I M (am_R M r0 7) x1.toNatClampNeg) M)))
def fn10_isPart (N : Nat) (M : am_Mem) (r0 : Nat) (x1 : Int32) (x2 : Int32) : Option (Int32 × am_Mem) := fn10_isPart_b0 N r0 x1 x2 M
def rm10_isPart : Room := { frames := 1, cells := 0, slots := 0, locals := 21 }
set_option maxRecDepth 20000 in
theorem sn10_isPart_b70 {l : Launch} {G : am_G} {v : Int32} {M' : am_Mem} {N : Nat}  (cx : am_Ctx l rm10_isPart yX10_isPart cX10_isPart 10 (some .boolean) (some (.inl v)) M' 0 0 G)   {M : am_Mem} (hres : fn10_isPart_b70 N   M = some (v, M')) : G 70 [] [] M 0 0 := by
  unfold fn10_isPart_b70 at hres
  refine am_iconst cx (v := (0 : Int32)) dX10_isPart_70 (by decide) ?_
  obtain ⟨rfl, rfl⟩ := am_fin hres
  exact am_zret cx rfl dX10_isPart_71
set_option maxRecDepth 20000 in
theorem sn10_isPart_b226 {l : Launch} {G : am_G} {v : Int32} {M' : am_Mem} {N : Nat}  (cx : am_Ctx l rm10_isPart yX10_isPart cX10_isPart 10 (some .boolean) (some (.inl v)) M' 0 0 G)  {a0 : Int32} {M : am_Mem} (hres : fn10_isPart_b226 N  a0 M = some (v, M')) : G 226 [] [.inl a0] M 0 0 := by
  unfold fn10_isPart_b226 at hres
  obtain ⟨q1, hres⟩ := am_ck_some hres
  obtain ⟨rfl, rfl⟩ := am_fin hres
  exact am_zret cx q1 dX10_isPart_226
set_option maxRecDepth 20000 in
theorem sn10_isPart_b206 {l : Launch} {G : am_G} {v : Int32} {M' : am_Mem} {N : Nat} {k78 : Nat → Int32 → Int32 → Int32 → Int32 → Int32 → Int32 → am_Mem → Option (Int32 × am_Mem)} (cx : am_Ctx l rm10_isPart yX10_isPart cX10_isPart 10 (some .boolean) (some (.inl v)) M' 0 0 G) (hk78 : ∀ (r0 : Nat) (x3 : Int32) (x4 : Int32) (x5 : Int32) (x6 : Int32) (x7 : Int32) (x8 : Int32) (M : am_Mem), k78 r0 x3 x4 x5 x6 x7 x8 M = some (v, M') → G 78 [(0, .inr (.inr (.inl r0))), (3, .inl x3), (4, .inl x4), (5, .inl x5), (6, .inl x6), (7, .inl x7), (8, .inl x8)] [] M 0 0) {r0 : Nat} {x3 : Int32} {x4 : Int32} {x5 : Int32} {x6 : Int32} {x7 : Int32} {x8 : Int32} {M : am_Mem} (hres : fn10_isPart_b206 N k78 r0 x3 x4 x5 x6 x7 x8 M = some (v, M')) : G 206 [(0, .inr (.inr (.inl r0))), (3, .inl x3), (4, .inl x4), (5, .inl x5), (6, .inl x6), (7, .inl x7), (8, .inl x8)] [] M 0 0 := by
  unfold fn10_isPart_b206 at hres
  refine am_iincw cx (lv' := [(0, .inr (.inr (.inl r0))), (3, .inl x3), (4, .inl x4), (5, .inl x5), (6, .inl x6), (7, .inl x7), (8, .inl (x8 + (1 : Int32)))]) (w := (1 : Int32)) 6 dX10_isPart_206 (by decide) rfl (Nat.le_of_ble_eq_true rfl) rfl ?_
  refine am_goto cx (tgt := 78) dX10_isPart_209 (by decide) ?_
  exact hk78 _ _ _ _ _ _ _ _ hres
set_option maxRecDepth 20000 in
theorem sn10_isPart_b203 {l : Launch} {G : am_G} {v : Int32} {M' : am_Mem} {N : Nat} {k78 : Nat → Int32 → Int32 → Int32 → Int32 → Int32 → Int32 → am_Mem → Option (Int32 × am_Mem)} (cx : am_Ctx l rm10_isPart yX10_isPart cX10_isPart 10 (some .boolean) (some (.inl v)) M' 0 0 G) (hk78 : ∀ (r0 : Nat) (x3 : Int32) (x4 : Int32) (x5 : Int32) (x6 : Int32) (x7 : Int32) (x8 : Int32) (M : am_Mem), k78 r0 x3 x4 x5 x6 x7 x8 M = some (v, M') → G 78 [(0, .inr (.inr (.inl r0))), (3, .inl x3), (4, .inl x4), (5, .inl x5), (6, .inl x6), (7, .inl x7), (8, .inl x8)] [] M 0 0) {a0 : Int32} {a1 : Int32} {r0 : Nat} {x3 : Int32} {x4 : Int32} {x5 : Int32} {x6 : Int32} {x8 : Int32} {M : am_Mem} (hres : fn10_isPart_b203 N k78 a0 a1 r0 x3 x4 x5 x6 x8 M = some (v, M')) : G 203 [(0, .inr (.inr (.inl r0))), (3, .inl x3), (4, .inl x4), (5, .inl x5), (6, .inl x6), (8, .inl x8)] [.inl a1, .inl a0] M 0 0 := by
  unfold fn10_isPart_b203 at hres
  refine am_iadd cx dX10_isPart_203 ?_
  refine am_istore cx (lv' := [(0, .inr (.inr (.inl r0))), (3, .inl x3), (4, .inl x4), (5, .inl x5), (6, .inl x6), (7, .inl (a0 + a1)), (8, .inl x8)]) dX10_isPart_204 (Nat.le_of_ble_eq_true rfl) rfl ?_
  exact sn10_isPart_b206 cx hk78 hres
set_option maxRecDepth 20000 in
theorem sn10_isPart_b191 {l : Launch} {G : am_G} {v : Int32} {M' : am_Mem} {N : Nat} {k78 : Nat → Int32 → Int32 → Int32 → Int32 → Int32 → Int32 → am_Mem → Option (Int32 × am_Mem)} (cx : am_Ctx l rm10_isPart yX10_isPart cX10_isPart 10 (some .boolean) (some (.inl v)) M' 0 0 G) (hk78 : ∀ (r0 : Nat) (x3 : Int32) (x4 : Int32) (x5 : Int32) (x6 : Int32) (x7 : Int32) (x8 : Int32) (M : am_Mem), k78 r0 x3 x4 x5 x6 x7 x8 M = some (v, M') → G 78 [(0, .inr (.inr (.inl r0))), (3, .inl x3), (4, .inl x4), (5, .inl x5), (6, .inl x6), (7, .inl x7), (8, .inl x8)] [] M 0 0) {r0 : Nat} {x3 : Int32} {x4 : Int32} {x5 : Int32} {x6 : Int32} {x7 : Int32} {x8 : Int32} {x9 : Int32} {M : am_Mem} (hres : fn10_isPart_b191 N k78 r0 x3 x4 x5 x6 x7 x8 x9 M = some (v, M')) : G 191 [(0, .inr (.inr (.inl r0))), (3, .inl x3), (4, .inl x4), (5, .inl x5), (6, .inl x6), (7, .inl x7), (8, .inl x8), (9, .inl x9)] [] M 0 0 := by
  unfold fn10_isPart_b191 at hres
  refine am_iload cx 5 dX10_isPart_191 rfl ?_
  refine am_iload cx 7 dX10_isPart_193 rfl ?_
  refine am_if_eq cx (tgt := 202) dX10_isPart_195 (by decide) (fun h => ?_) (fun h => ?_)
  · have hres := am_ifp h hres
    refine am_iconst cx (v := (0 : Int32)) dX10_isPart_202 (by decide) ?_
    refine am_sub cx [0, 1, 2, 3, 4, 6] rfl ?_
    exact sn10_isPart_b203 cx hk78 hres
  · have hres := am_ifn h hres
    refine am_iconst cx (v := (1 : Int32)) dX10_isPart_198 (by decide) ?_
    refine am_goto cx (tgt := 203) dX10_isPart_199 (by decide) ?_
    refine am_sub cx [0, 1, 2, 3, 4, 6] rfl ?_
    exact sn10_isPart_b203 cx hk78 hres
set_option maxRecDepth 20000 in
theorem sn10_isPart_b189 {l : Launch} {G : am_G} {v : Int32} {M' : am_Mem} {N : Nat}  (cx : am_Ctx l rm10_isPart yX10_isPart cX10_isPart 10 (some .boolean) (some (.inl v)) M' 0 0 G)   {M : am_Mem} (hres : fn10_isPart_b189 N   M = some (v, M')) : G 189 [] [] M 0 0 := by
  unfold fn10_isPart_b189 at hres
  refine am_iconst cx (v := (0 : Int32)) dX10_isPart_189 (by decide) ?_
  obtain ⟨rfl, rfl⟩ := am_fin hres
  exact am_zret cx rfl dX10_isPart_190
set_option maxRecDepth 20000 in
theorem sn10_isPart_b137 {l : Launch} {G : am_G} {v : Int32} {M' : am_Mem} {N : Nat} {k78 : Nat → Int32 → Int32 → Int32 → Int32 → Int32 → Int32 → am_Mem → Option (Int32 × am_Mem)} (cx : am_Ctx l rm10_isPart yX10_isPart cX10_isPart 10 (some .boolean) (some (.inl v)) M' 0 0 G) (hk78 : ∀ (r0 : Nat) (x3 : Int32) (x4 : Int32) (x5 : Int32) (x6 : Int32) (x7 : Int32) (x8 : Int32) (M : am_Mem), k78 r0 x3 x4 x5 x6 x7 x8 M = some (v, M') → G 78 [(0, .inr (.inr (.inl r0))), (3, .inl x3), (4, .inl x4), (5, .inl x5), (6, .inl x6), (7, .inl x7), (8, .inl x8)] [] M 0 0) {a0 : Int32} {r0 : Nat} {x3 : Int32} {x4 : Int32} {x5 : Int32} {x6 : Int32} {x7 : Int32} {x8 : Int32} {M : am_Mem} (hres : fn10_isPart_b137 N k78 a0 r0 x3 x4 x5 x6 x7 x8 M = some (v, M')) : G 137 [(0, .inr (.inr (.inl r0))), (3, .inl x3), (4, .inl x4), (5, .inl x5), (6, .inl x6), (7, .inl x7), (8, .inl x8)] [.inl a0] M 0 0 := by
  unfold fn10_isPart_b137 at hres
  refine am_istore cx (lv' := [(0, .inr (.inr (.inl r0))), (3, .inl x3), (4, .inl x4), (5, .inl x5), (6, .inl x6), (7, .inl x7), (8, .inl x8), (9, .inl a0)]) dX10_isPart_137 (Nat.le_of_ble_eq_true rfl) rfl ?_
  refine am_iload cx 7 dX10_isPart_139 rfl ?_
  refine am_if_eq cx (tgt := 191) dX10_isPart_141 (by decide) (fun h => ?_) (fun h => ?_)
  · have hres := am_ifp h hres
    exact sn10_isPart_b191 cx hk78 hres
  · have hres := am_ifn h hres
    refine am_aload_n cx 0 dX10_isPart_144 rfl ?_
    obtain ⟨q1, hres⟩ := am_ck_some hres
    refine am_getR cx dX10_isPart_145 flX10_41 (am_ke q1) ?_
    refine am_iload cx 6 dX10_isPart_148 rfl ?_
    obtain ⟨q2, hres⟩ := am_ck_some hres
    obtain ⟨q3, hres⟩ := am_ck_some hres
    refine am_iald cx dX10_isPart_150 (am_ke q2) q3 ?_
    refine am_iload_n cx 1 dX10_isPart_151 rfl ?_
    refine am_icmp_lt cx (tgt := 189) dX10_isPart_152 (by decide) (fun h => ?_) (fun h => ?_)
    · have hres := am_ifp h hres
      refine am_sub cx [] rfl ?_
      exact sn10_isPart_b189 cx  hres
    · have hres := am_ifn h hres
      refine am_aload_n cx 0 dX10_isPart_155 rfl ?_
      refine am_iload cx 6 dX10_isPart_156 rfl ?_
      obtain ⟨v4, M5, q6, hres⟩ := am_bd_some hres
      refine am_callV1 cx [.inl x8] dX10_isPart_158 cvX10_60 (mt10_right q6) (am_ke q1) ⟨rfl, rfl, Nat.le_of_ble_eq_true rfl, Nat.le_of_ble_eq_true rfl⟩ rfl (Nat.le_of_ble_eq_true rfl) ⟨Nat.le_of_ble_eq_true rfl, Nat.le_of_ble_eq_true rfl⟩ ?_
      refine am_iload cx 3 dX10_isPart_161 rfl ?_
      refine am_icmp_gt cx (tgt := 189) dX10_isPart_163 (by decide) (fun h => ?_) (fun h => ?_)
      · have hres := am_ifp h hres
        refine am_sub cx [] rfl ?_
        exact sn10_isPart_b189 cx  hres
      · have hres := am_ifn h hres
        refine am_aload_n cx 0 dX10_isPart_166 rfl ?_
        obtain ⟨q7, hres⟩ := am_ck_some hres
        refine am_getR cx dX10_isPart_167 flX10_45 (am_ke q7) ?_
        refine am_iload cx 6 dX10_isPart_170 rfl ?_
        obtain ⟨q8, hres⟩ := am_ck_some hres
        obtain ⟨q9, hres⟩ := am_ck_some hres
        refine am_iald cx dX10_isPart_172 (am_ke q8) q9 ?_
        refine am_iload cx 2 dX10_isPart_173 rfl ?_
        refine am_icmp_lt cx (tgt := 189) dX10_isPart_175 (by decide) (fun h => ?_) (fun h => ?_)
        · have hres := am_ifp h hres
          refine am_sub cx [] rfl ?_
          exact sn10_isPart_b189 cx  hres
        · have hres := am_ifn h hres
          refine am_aload_n cx 0 dX10_isPart_178 rfl ?_
          refine am_iload cx 6 dX10_isPart_179 rfl ?_
          obtain ⟨v10, M11, q12, hres⟩ := am_bd_some hres
          refine am_callV1 cx [.inl x8] dX10_isPart_181 cvX10_72 (mt10_bottom q12) (am_ke q7) ⟨rfl, rfl, Nat.le_of_ble_eq_true rfl, Nat.le_of_ble_eq_true rfl⟩ rfl (Nat.le_of_ble_eq_true rfl) ⟨Nat.le_of_ble_eq_true rfl, Nat.le_of_ble_eq_true rfl⟩ ?_
          refine am_iload cx 4 dX10_isPart_184 rfl ?_
          refine am_icmp_le cx (tgt := 191) dX10_isPart_186 (by decide) (fun h => ?_) (fun h => ?_)
          · have hres := am_ifp h hres
            exact sn10_isPart_b191 cx hk78 hres
          · have hres := am_ifn h hres
            refine am_sub cx [] rfl ?_
            exact sn10_isPart_b189 cx  hres
set_option maxRecDepth 20000 in
theorem sn10_isPart_b136 {l : Launch} {G : am_G} {v : Int32} {M' : am_Mem} {N : Nat} {k78 : Nat → Int32 → Int32 → Int32 → Int32 → Int32 → Int32 → am_Mem → Option (Int32 × am_Mem)} (cx : am_Ctx l rm10_isPart yX10_isPart cX10_isPart 10 (some .boolean) (some (.inl v)) M' 0 0 G) (hk78 : ∀ (r0 : Nat) (x3 : Int32) (x4 : Int32) (x5 : Int32) (x6 : Int32) (x7 : Int32) (x8 : Int32) (M : am_Mem), k78 r0 x3 x4 x5 x6 x7 x8 M = some (v, M') → G 78 [(0, .inr (.inr (.inl r0))), (3, .inl x3), (4, .inl x4), (5, .inl x5), (6, .inl x6), (7, .inl x7), (8, .inl x8)] [] M 0 0) {r0 : Nat} {x3 : Int32} {x4 : Int32} {x5 : Int32} {x6 : Int32} {x7 : Int32} {x8 : Int32} {M : am_Mem} (hres : fn10_isPart_b136 N k78 r0 x3 x4 x5 x6 x7 x8 M = some (v, M')) : G 136 [(0, .inr (.inr (.inl r0))), (3, .inl x3), (4, .inl x4), (5, .inl x5), (6, .inl x6), (7, .inl x7), (8, .inl x8)] [] M 0 0 := by
  unfold fn10_isPart_b136 at hres
  refine am_iconst cx (v := (0 : Int32)) dX10_isPart_136 (by decide) ?_
  exact sn10_isPart_b137 cx hk78 hres
set_option maxRecDepth 20000 in
theorem sn10_isPart_b78B {l : Launch} {G : am_G} {v : Int32} {M' : am_Mem} {N : Nat} {k78 : Nat → Int32 → Int32 → Int32 → Int32 → Int32 → Int32 → am_Mem → Option (Int32 × am_Mem)} (cx : am_Ctx l rm10_isPart yX10_isPart cX10_isPart 10 (some .boolean) (some (.inl v)) M' 0 0 G) (hk78 : ∀ (r0 : Nat) (x3 : Int32) (x4 : Int32) (x5 : Int32) (x6 : Int32) (x7 : Int32) (x8 : Int32) (M : am_Mem), k78 r0 x3 x4 x5 x6 x7 x8 M = some (v, M') → G 78 [(0, .inr (.inr (.inl r0))), (3, .inl x3), (4, .inl x4), (5, .inl x5), (6, .inl x6), (7, .inl x7), (8, .inl x8)] [] M 0 0) {r0 : Nat} {x3 : Int32} {x4 : Int32} {x5 : Int32} {x6 : Int32} {x7 : Int32} {x8 : Int32} {M : am_Mem} (hres : fn10_isPart_b78B N k78 r0 x3 x4 x5 x6 x7 x8 M = some (v, M')) : G 78 [(0, .inr (.inr (.inl r0))), (3, .inl x3), (4, .inl x4), (5, .inl x5), (6, .inl x6), (7, .inl x7), (8, .inl x8)] [] M 0 0 := by
  unfold fn10_isPart_b78B at hres
  refine am_iload cx 6 dX10_isPart_78 rfl ?_
  refine am_aload_n cx 0 dX10_isPart_80 rfl ?_
  obtain ⟨q1, hres⟩ := am_ck_some hres
  refine am_getI cx dX10_isPart_81 flX10_32 (am_ke q1) ?_
  refine am_icmp_ge cx (tgt := 212) dX10_isPart_84 (by decide) (fun h => ?_) (fun h => ?_)
  · have hres := am_ifp h hres
    refine am_iload cx 5 dX10_isPart_212 rfl ?_
    refine am_aload_n cx 0 dX10_isPart_214 rfl ?_
    refine am_getI cx dX10_isPart_215 flX10_32 (am_ke q1) ?_
    refine am_icmp_ge cx (tgt := 225) dX10_isPart_218 (by decide) (fun h => ?_) (fun h => ?_)
    · have hres := am_ifp h hres
      refine am_iconst cx (v := (0 : Int32)) dX10_isPart_225 (by decide) ?_
      refine am_sub cx [] rfl ?_
      exact sn10_isPart_b226 cx  hres
    · have hres := am_ifn h hres
      refine am_iconst cx (v := (1 : Int32)) dX10_isPart_221 (by decide) ?_
      refine am_goto cx (tgt := 226) dX10_isPart_222 (by decide) ?_
      refine am_sub cx [] rfl ?_
      exact sn10_isPart_b226 cx  hres
  · have hres := am_ifn h hres
    refine am_aload_n cx 0 dX10_isPart_87 rfl ?_
    refine am_getR cx dX10_isPart_88 flX10_41 (am_ke q1) ?_
    refine am_iload cx 6 dX10_isPart_91 rfl ?_
    obtain ⟨q2, hres⟩ := am_ck_some hres
    obtain ⟨q3, hres⟩ := am_ck_some hres
    refine am_iald cx dX10_isPart_93 (am_ke q2) q3 ?_
    refine am_iload cx 3 dX10_isPart_94 rfl ?_
    refine am_icmp_ge cx (tgt := 136) dX10_isPart_96 (by decide) (fun h => ?_) (fun h => ?_)
    · have hres := am_ifp h hres
      exact sn10_isPart_b136 cx hk78 hres
    · have hres := am_ifn h hres
      refine am_aload_n cx 0 dX10_isPart_99 rfl ?_
      refine am_iload cx 6 dX10_isPart_100 rfl ?_
      obtain ⟨v4, M5, q6, hres⟩ := am_bd_some hres
      refine am_callV1 cx [.inl x8] dX10_isPart_102 cvX10_60 (mt10_right q6) (am_ke q1) ⟨rfl, rfl, Nat.le_of_ble_eq_true rfl, Nat.le_of_ble_eq_true rfl⟩ rfl (Nat.le_of_ble_eq_true rfl) ⟨Nat.le_of_ble_eq_true rfl, Nat.le_of_ble_eq_true rfl⟩ ?_
      refine am_iload_n cx 1 dX10_isPart_105 rfl ?_
      refine am_icmp_le cx (tgt := 136) dX10_isPart_106 (by decide) (fun h => ?_) (fun h => ?_)
      · have hres := am_ifp h hres
        exact sn10_isPart_b136 cx hk78 hres
      · have hres := am_ifn h hres
        refine am_aload_n cx 0 dX10_isPart_109 rfl ?_
        obtain ⟨q7, hres⟩ := am_ck_some hres
        refine am_getR cx dX10_isPart_110 flX10_45 (am_ke q7) ?_
        refine am_iload cx 6 dX10_isPart_113 rfl ?_
        obtain ⟨q8, hres⟩ := am_ck_some hres
        obtain ⟨q9, hres⟩ := am_ck_some hres
        refine am_iald cx dX10_isPart_115 (am_ke q8) q9 ?_
        refine am_iload cx 4 dX10_isPart_116 rfl ?_
        refine am_icmp_ge cx (tgt := 136) dX10_isPart_118 (by decide) (fun h => ?_) (fun h => ?_)
        · have hres := am_ifp h hres
          exact sn10_isPart_b136 cx hk78 hres
        · have hres := am_ifn h hres
          refine am_aload_n cx 0 dX10_isPart_121 rfl ?_
          refine am_iload cx 6 dX10_isPart_122 rfl ?_
          obtain ⟨v10, M11, q12, hres⟩ := am_bd_some hres
          refine am_callV1 cx [.inl x8] dX10_isPart_124 cvX10_72 (mt10_bottom q12) (am_ke q7) ⟨rfl, rfl, Nat.le_of_ble_eq_true rfl, Nat.le_of_ble_eq_true rfl⟩ rfl (Nat.le_of_ble_eq_true rfl) ⟨Nat.le_of_ble_eq_true rfl, Nat.le_of_ble_eq_true rfl⟩ ?_
          refine am_iload cx 2 dX10_isPart_127 rfl ?_
          refine am_icmp_le cx (tgt := 136) dX10_isPart_129 (by decide) (fun h => ?_) (fun h => ?_)
          · have hres := am_ifp h hres
            exact sn10_isPart_b136 cx hk78 hres
          · have hres := am_ifn h hres
            refine am_iconst cx (v := (1 : Int32)) dX10_isPart_132 (by decide) ?_
            refine am_goto cx (tgt := 137) dX10_isPart_133 (by decide) ?_
            exact sn10_isPart_b137 cx hk78 hres
set_option maxRecDepth 20000 in
theorem sn10_isPart_b78 {l : Launch} {G : am_G} {v : Int32} {M' : am_Mem} {N : Nat}  (cx : am_Ctx l rm10_isPart yX10_isPart cX10_isPart 10 (some .boolean) (some (.inl v)) M' 0 0 G)  (i : Nat) : ∀ (r0 : Nat) (x3 : Int32) (x4 : Int32) (x5 : Int32) (x6 : Int32) (x7 : Int32) (x8 : Int32) (M : am_Mem), fn10_isPart_b78 N  i r0 x3 x4 x5 x6 x7 x8 M = some (v, M') → G 78 [(0, .inr (.inr (.inl r0))), (3, .inl x3), (4, .inl x4), (5, .inl x5), (6, .inl x6), (7, .inl x7), (8, .inl x8)] [] M 0 0 := by
  induction i with
  | zero => intro r0 x3 x4 x5 x6 x7 x8 M hres; exact am_no hres
  | succ i ih => intro r0 x3 x4 x5 x6 x7 x8 M hres; exact sn10_isPart_b78B cx ih hres
set_option maxRecDepth 20000 in
theorem sn10_isPart_b15 {l : Launch} {G : am_G} {v : Int32} {M' : am_Mem} {N : Nat}  (cx : am_Ctx l rm10_isPart yX10_isPart cX10_isPart 10 (some .boolean) (some (.inl v)) M' 0 0 G)  {r0 : Nat} {x1 : Int32} {x2 : Int32} {x3 : Int32} {x4 : Int32} {M : am_Mem} (hres : fn10_isPart_b15 N  r0 x1 x2 x3 x4 M = some (v, M')) : G 15 [(0, .inr (.inr (.inl r0))), (1, .inl x1), (2, .inl x2), (3, .inl x3), (4, .inl x4)] [] M 0 0 := by
  unfold fn10_isPart_b15 at hres
  refine am_aload_n cx 0 dX10_isPart_15 rfl ?_
  refine am_iload_n cx 2 dX10_isPart_16 rfl ?_
  obtain ⟨q1, hres⟩ := am_ck_some hres
  obtain ⟨v2, M3, q4, hres⟩ := am_bd_some hres
  refine am_callV1 cx [.inl x2] dX10_isPart_17 cvX10_60 (mt10_right q4) (am_ke q1) ⟨rfl, rfl, Nat.le_of_ble_eq_true rfl, Nat.le_of_ble_eq_true rfl⟩ rfl (Nat.le_of_ble_eq_true rfl) ⟨Nat.le_of_ble_eq_true rfl, Nat.le_of_ble_eq_true rfl⟩ ?_
  refine am_istore cx (lv' := [(0, .inr (.inr (.inl r0))), (1, .inl x1), (2, .inl x2), (3, .inl x3), (4, .inl x4), (5, .inl v2)]) dX10_isPart_20 (Nat.le_of_ble_eq_true rfl) rfl ?_
  refine am_aload_n cx 0 dX10_isPart_22 rfl ?_
  refine am_iload_n cx 2 dX10_isPart_23 rfl ?_
  obtain ⟨q5, hres⟩ := am_ck_some hres
  obtain ⟨v6, M7, q8, hres⟩ := am_bd_some hres
  refine am_callV1 cx [.inl x2] dX10_isPart_24 cvX10_72 (mt10_bottom q8) (am_ke q5) ⟨rfl, rfl, Nat.le_of_ble_eq_true rfl, Nat.le_of_ble_eq_true rfl⟩ rfl (Nat.le_of_ble_eq_true rfl) ⟨Nat.le_of_ble_eq_true rfl, Nat.le_of_ble_eq_true rfl⟩ ?_
  refine am_istore cx (lv' := [(0, .inr (.inr (.inl r0))), (1, .inl x1), (2, .inl x2), (3, .inl x3), (4, .inl x4), (5, .inl v2), (6, .inl v6)]) dX10_isPart_27 (Nat.le_of_ble_eq_true rfl) rfl ?_
  refine am_aload_n cx 0 dX10_isPart_29 rfl ?_
  refine am_iload_n cx 1 dX10_isPart_30 rfl ?_
  obtain ⟨q9, hres⟩ := am_ck_some hres
  obtain ⟨v10, M11, q12, hres⟩ := am_bd_some hres
  refine am_callV1 cx [.inl x1] dX10_isPart_31 cvX10_60 (mt10_right q12) (am_ke q9) ⟨rfl, rfl, Nat.le_of_ble_eq_true rfl, Nat.le_of_ble_eq_true rfl⟩ rfl (Nat.le_of_ble_eq_true rfl) ⟨Nat.le_of_ble_eq_true rfl, Nat.le_of_ble_eq_true rfl⟩ ?_
  refine am_iload cx 5 dX10_isPart_34 rfl ?_
  refine am_icmp_gt cx (tgt := 70) dX10_isPart_36 (by decide) (fun h => ?_) (fun h => ?_)
  · have hres := am_ifp h hres
    refine am_sub cx [] rfl ?_
    exact sn10_isPart_b70 cx  hres
  · have hres := am_ifn h hres
    refine am_aload_n cx 0 dX10_isPart_39 rfl ?_
    refine am_iload_n cx 1 dX10_isPart_40 rfl ?_
    obtain ⟨q13, hres⟩ := am_ck_some hres
    obtain ⟨v14, M15, q16, hres⟩ := am_bd_some hres
    refine am_callV1 cx [.inl x1] dX10_isPart_41 cvX10_72 (mt10_bottom q16) (am_ke q13) ⟨rfl, rfl, Nat.le_of_ble_eq_true rfl, Nat.le_of_ble_eq_true rfl⟩ rfl (Nat.le_of_ble_eq_true rfl) ⟨Nat.le_of_ble_eq_true rfl, Nat.le_of_ble_eq_true rfl⟩ ?_
    refine am_iload cx 6 dX10_isPart_44 rfl ?_
    refine am_icmp_gt cx (tgt := 70) dX10_isPart_46 (by decide) (fun h => ?_) (fun h => ?_)
    · have hres := am_ifp h hres
      refine am_sub cx [] rfl ?_
      exact sn10_isPart_b70 cx  hres
    · have hres := am_ifn h hres
      refine am_aload_n cx 0 dX10_isPart_49 rfl ?_
      obtain ⟨q17, hres⟩ := am_ck_some hres
      refine am_getR cx dX10_isPart_50 flX10_41 (am_ke q17) ?_
      refine am_iload_n cx 2 dX10_isPart_53 rfl ?_
      obtain ⟨q18, hres⟩ := am_ck_some hres
      obtain ⟨q19, hres⟩ := am_ck_some hres
      refine am_iald cx dX10_isPart_54 (am_ke q18) q19 ?_
      refine am_iload_n cx 3 dX10_isPart_55 rfl ?_
      refine am_icmp_lt cx (tgt := 70) dX10_isPart_56 (by decide) (fun h => ?_) (fun h => ?_)
      · have hres := am_ifp h hres
        refine am_sub cx [] rfl ?_
        exact sn10_isPart_b70 cx  hres
      · have hres := am_ifn h hres
        refine am_aload_n cx 0 dX10_isPart_59 rfl ?_
        refine am_getR cx dX10_isPart_60 flX10_45 (am_ke q17) ?_
        refine am_iload_n cx 2 dX10_isPart_63 rfl ?_
        obtain ⟨q20, hres⟩ := am_ck_some hres
        obtain ⟨q21, hres⟩ := am_ck_some hres
        refine am_iald cx dX10_isPart_64 (am_ke q20) q21 ?_
        refine am_iload cx 4 dX10_isPart_65 rfl ?_
        refine am_icmp_ge cx (tgt := 72) dX10_isPart_67 (by decide) (fun h => ?_) (fun h => ?_)
        · have hres := am_ifp h hres
          refine am_iconst cx (v := (0 : Int32)) dX10_isPart_72 (by decide) ?_
          refine am_istore cx (lv' := [(0, .inr (.inr (.inl r0))), (1, .inl x1), (2, .inl x2), (3, .inl x3), (4, .inl x4), (5, .inl v2), (6, .inl v6), (7, .inl (0 : Int32))]) dX10_isPart_73 (Nat.le_of_ble_eq_true rfl) rfl ?_
          refine am_iconst cx (v := (0 : Int32)) dX10_isPart_75 (by decide) ?_
          refine am_istore cx (lv' := [(0, .inr (.inr (.inl r0))), (1, .inl x1), (2, .inl x2), (3, .inl x3), (4, .inl x4), (5, .inl v2), (6, .inl v6), (7, .inl (0 : Int32)), (8, .inl (0 : Int32))]) dX10_isPart_76 (Nat.le_of_ble_eq_true rfl) rfl ?_
          refine am_sub cx [0, 3, 4, 5, 6, 7, 8] rfl ?_
          exact sn10_isPart_b78 cx  N _ _ _ _ _ _ _ _ hres
        · have hres := am_ifn h hres
          refine am_sub cx [] rfl ?_
          exact sn10_isPart_b70 cx  hres
set_option maxRecDepth 20000 in
theorem sn10_isPart_b7 {l : Launch} {G : am_G} {v : Int32} {M' : am_Mem} {N : Nat}  (cx : am_Ctx l rm10_isPart yX10_isPart cX10_isPart 10 (some .boolean) (some (.inl v)) M' 0 0 G)  {r0 : Nat} {x1 : Int32} {x2 : Int32} {x3 : Int32} {M : am_Mem} (hres : fn10_isPart_b7 N  r0 x1 x2 x3 M = some (v, M')) : G 7 [(0, .inr (.inr (.inl r0))), (1, .inl x1), (2, .inl x2), (3, .inl x3)] [] M 0 0 := by
  unfold fn10_isPart_b7 at hres
  refine am_aload_n cx 0 dX10_isPart_7 rfl ?_
  obtain ⟨q1, hres⟩ := am_ck_some hres
  refine am_getR cx dX10_isPart_8 flX10_45 (am_ke q1) ?_
  refine am_iload_n cx 1 dX10_isPart_11 rfl ?_
  obtain ⟨q2, hres⟩ := am_ck_some hres
  obtain ⟨q3, hres⟩ := am_ck_some hres
  refine am_iald cx dX10_isPart_12 (am_ke q2) q3 ?_
  refine am_istore cx (lv' := [(0, .inr (.inr (.inl r0))), (1, .inl x1), (2, .inl x2), (3, .inl x3), (4, .inl (am_I M (am_R M r0 8) x1.toNatClampNeg))]) dX10_isPart_13 (Nat.le_of_ble_eq_true rfl) rfl ?_
  exact sn10_isPart_b15 cx  hres
set_option maxRecDepth 20000 in
theorem sn10_isPart_b0 {l : Launch} {G : am_G} {v : Int32} {M' : am_Mem} {N : Nat}  (cx : am_Ctx l rm10_isPart yX10_isPart cX10_isPart 10 (some .boolean) (some (.inl v)) M' 0 0 G)  {r0 : Nat} {x1 : Int32} {x2 : Int32} {M : am_Mem} (hres : fn10_isPart_b0 N  r0 x1 x2 M = some (v, M')) : G 0 [(0, .inr (.inr (.inl r0))), (1, .inl x1), (2, .inl x2)] [] M 0 0 := by
  unfold fn10_isPart_b0 at hres
  refine am_aload_n cx 0 dX10_isPart_0 rfl ?_
  obtain ⟨q1, hres⟩ := am_ck_some hres
  refine am_getR cx dX10_isPart_1 flX10_41 (am_ke q1) ?_
  refine am_iload_n cx 1 dX10_isPart_4 rfl ?_
  obtain ⟨q2, hres⟩ := am_ck_some hres
  obtain ⟨q3, hres⟩ := am_ck_some hres
  refine am_iald cx dX10_isPart_5 (am_ke q2) q3 ?_
  refine am_istore_n cx (lv' := [(0, .inr (.inr (.inl r0))), (1, .inl x1), (2, .inl x2), (3, .inl (am_I M (am_R M r0 7) x1.toNatClampNeg))]) dX10_isPart_6 (Nat.le_of_ble_eq_true rfl) rfl ?_
  exact sn10_isPart_b7 cx  hres
set_option maxRecDepth 20000 in
theorem mt10_isPart {l : Launch} {v : Int32} {M M' : am_Mem} {N : Nat} {r0 : Nat} {x1 : Int32} {x2 : Int32} (h : fn10_isPart N M r0 x1 x2 = some (v, M')) : am_Met l yX10_isPart cX10_isPart 10 (some .boolean) rm10_isPart 0 0 [.inr (.inr (.inl r0)), .inl x1, .inl x2] M (some (.inl v)) M' := am_mk (by decide) (Nat.le_of_ble_eq_true rfl) (fun G cx => (sn10_isPart_b0 cx h))
-- SquareCuts$Tiling.cornersAt
def fn10_cornersAt_b88 (N : Nat) (k5 : Nat → Int32 → Int32 → Int32 → Int32 → am_Mem → Option (Int32 × am_Mem)) (r0 : Nat) (x1 : Int32) (x2 : Int32) (x3 : Int32) (x4 : Int32) (M : am_Mem) : Option (Int32 × am_Mem) :=
  k5 r0 x1 x2 x3 (x4 + (1 : Int32)) M
def fn10_cornersAt_b86 (N : Nat) (k5 : Nat → Int32 → Int32 → Int32 → Int32 → am_Mem → Option (Int32 × am_Mem)) (a0 : Int32) (a1 : Int32) (r0 : Nat) (x1 : Int32) (x2 : Int32) (x4 : Int32) (M : am_Mem) : Option (Int32 × am_Mem) :=
  fn10_cornersAt_b88 N k5 r0 x1 x2 (a0 + a1) x4 M
def fn10_cornersAt_b85 (N : Nat) (k5 : Nat → Int32 → Int32 → Int32 → Int32 → am_Mem → Option (Int32 × am_Mem)) (a0 : Int32) (r0 : Nat) (x1 : Int32) (x2 : Int32) (x4 : Int32) (M : am_Mem) : Option (Int32 × am_Mem) :=
  fn10_cornersAt_b86 N k5 a0 (0 : Int32) r0 x1 x2 x4 M
def fn10_cornersAt_b68 (N : Nat) (k5 : Nat → Int32 → Int32 → Int32 → Int32 → am_Mem → Option (Int32 × am_Mem)) (a0 : Int32) (r0 : Nat) (x1 : Int32) (x2 : Int32) (x3 : Int32) (x4 : Int32) (x5 : Int32) (M : am_Mem) : Option (Int32 × am_Mem) :=
  if x5 = 0 then fn10_cornersAt_b85 N k5 x3 r0 x1 x2 x4 M else if a0 = 0 then fn10_cornersAt_b85 N k5 x3 r0 x1 x2 x4 M else fn10_cornersAt_b86 N k5 x3 (1 : Int32) r0 x1 x2 x4 M
def fn10_cornersAt_b63 (N : Nat) (k5 : Nat → Int32 → Int32 → Int32 → Int32 → am_Mem → Option (Int32 × am_Mem)) (r0 : Nat) (x1 : Int32) (x2 : Int32) (x3 : Int32) (x4 : Int32) (x5 : Int32) (M : am_Mem) : Option (Int32 × am_Mem) :=
  fn10_cornersAt_b68 N k5 (1 : Int32) r0 x1 x2 x3 x4 x5 M
def fn10_cornersAt_b40 (N : Nat) (k5 : Nat → Int32 → Int32 → Int32 → Int32 → am_Mem → Option (Int32 × am_Mem)) (a0 : Int32) (r0 : Nat) (x1 : Int32) (x2 : Int32) (x3 : Int32) (x4 : Int32) (M : am_Mem) : Option (Int32 × am_Mem) :=
  am_ck (am_k M r0 10) (am_ck (am_k M (am_R M r0 8) 14) (am_ck (am_in x4 (am_L M (am_R M r0 8))) (if (am_I M (am_R M r0 8) x4.toNatClampNeg) = x2 then fn10_cornersAt_b63 N k5 r0 x1 x2 x3 x4 a0 M else am_bd (fn10_bottom M r0 x4) (fun v4 M5 => if v4 = x2 then fn10_cornersAt_b63 N k5 r0 x1 x2 x3 x4 a0 M5 else fn10_cornersAt_b68 N k5 (0 : Int32) r0 x1 x2 x3 x4 a0 M5))))
def fn10_cornersAt_b35 (N : Nat) (k5 : Nat → Int32 → Int32 → Int32 → Int32 → am_Mem → Option (Int32 × am_Mem)) (r0 : Nat) (x1 : Int32) (x2 : Int32) (x3 : Int32) (x4 : Int32) (M : am_Mem) : Option (Int32 × am_Mem) :=
  fn10_cornersAt_b40 N k5 (1 : Int32) r0 x1 x2 x3 x4 M
def fn10_cornersAt_b5B (N : Nat) (k5 : Nat → Int32 → Int32 → Int32 → Int32 → am_Mem → Option (Int32 × am_Mem)) (r0 : Nat) (x1 : Int32) (x2 : Int32) (x3 : Int32) (x4 : Int32) (M : am_Mem) : Option (Int32 × am_Mem) :=
  am_ck (am_k M r0 10) (if (am_I M r0 4) ≤ x4 then some (x3, M) else am_ck (am_k M (am_R M r0 7) 14) (am_ck (am_in x4 (am_L M (am_R M r0 7))) (if (am_I M (am_R M r0 7) x4.toNatClampNeg) = x1 then fn10_cornersAt_b35 N k5 r0 x1 x2 x3 x4 M else am_bd (fn10_right M r0 x4) (fun v4 M5 => if v4 = x1 then fn10_cornersAt_b35 N k5 r0 x1 x2 x3 x4 M5 else fn10_cornersAt_b40 N k5 (0 : Int32) r0 x1 x2 x3 x4 M5))))
def fn10_cornersAt_b5 (N : Nat)  : Nat → Nat → Int32 → Int32 → Int32 → Int32 → am_Mem → Option (Int32 × am_Mem)
  | 0 => fun _ _ _ _ _ _ => none
  | i + 1 => fn10_cornersAt_b5B N (fn10_cornersAt_b5 N  i)
def fn10_cornersAt_b0 (N : Nat)  (r0 : Nat) (x1 : Int32) (x2 : Int32) (M : am_Mem) : Option (Int32 × am_Mem) :=
  fn10_cornersAt_b5 N  N r0 x1 x2 (0 : Int32) (0 : Int32) M
def fn10_cornersAt (N : Nat) (M : am_Mem) (r0 : Nat) (x1 : Int32) (x2 : Int32) : Option (Int32 × am_Mem) := fn10_cornersAt_b0 N r0 x1 x2 M
def rm10_cornersAt : Room := { frames := 1, cells := 0, slots := 0, locals := 21 }
set_option maxRecDepth 20000 in
theorem sn10_cornersAt_b88 {l : Launch} {G : am_G} {v : Int32} {M' : am_Mem} {N : Nat} {k5 : Nat → Int32 → Int32 → Int32 → Int32 → am_Mem → Option (Int32 × am_Mem)} (cx : am_Ctx l rm10_cornersAt yX10_cornersAt cX10_cornersAt 7 (some .int) (some (.inl v)) M' 0 0 G) (hk5 : ∀ (r0 : Nat) (x1 : Int32) (x2 : Int32) (x3 : Int32) (x4 : Int32) (M : am_Mem), k5 r0 x1 x2 x3 x4 M = some (v, M') → G 5 [(0, .inr (.inr (.inl r0))), (1, .inl x1), (2, .inl x2), (3, .inl x3), (4, .inl x4)] [] M 0 0) {r0 : Nat} {x1 : Int32} {x2 : Int32} {x3 : Int32} {x4 : Int32} {M : am_Mem} (hres : fn10_cornersAt_b88 N k5 r0 x1 x2 x3 x4 M = some (v, M')) : G 88 [(0, .inr (.inr (.inl r0))), (1, .inl x1), (2, .inl x2), (3, .inl x3), (4, .inl x4)] [] M 0 0 := by
  unfold fn10_cornersAt_b88 at hres
  refine am_iincw cx (lv' := [(0, .inr (.inr (.inl r0))), (1, .inl x1), (2, .inl x2), (3, .inl x3), (4, .inl (x4 + (1 : Int32)))]) (w := (1 : Int32)) 4 dX10_cornersAt_88 (by decide) rfl (Nat.le_of_ble_eq_true rfl) rfl ?_
  refine am_goto cx (tgt := 5) dX10_cornersAt_91 (by decide) ?_
  exact hk5 _ _ _ _ _ _ hres
set_option maxRecDepth 20000 in
theorem sn10_cornersAt_b86 {l : Launch} {G : am_G} {v : Int32} {M' : am_Mem} {N : Nat} {k5 : Nat → Int32 → Int32 → Int32 → Int32 → am_Mem → Option (Int32 × am_Mem)} (cx : am_Ctx l rm10_cornersAt yX10_cornersAt cX10_cornersAt 7 (some .int) (some (.inl v)) M' 0 0 G) (hk5 : ∀ (r0 : Nat) (x1 : Int32) (x2 : Int32) (x3 : Int32) (x4 : Int32) (M : am_Mem), k5 r0 x1 x2 x3 x4 M = some (v, M') → G 5 [(0, .inr (.inr (.inl r0))), (1, .inl x1), (2, .inl x2), (3, .inl x3), (4, .inl x4)] [] M 0 0) {a0 : Int32} {a1 : Int32} {r0 : Nat} {x1 : Int32} {x2 : Int32} {x4 : Int32} {M : am_Mem} (hres : fn10_cornersAt_b86 N k5 a0 a1 r0 x1 x2 x4 M = some (v, M')) : G 86 [(0, .inr (.inr (.inl r0))), (1, .inl x1), (2, .inl x2), (4, .inl x4)] [.inl a1, .inl a0] M 0 0 := by
  unfold fn10_cornersAt_b86 at hres
  refine am_iadd cx dX10_cornersAt_86 ?_
  refine am_istore_n cx (lv' := [(0, .inr (.inr (.inl r0))), (1, .inl x1), (2, .inl x2), (3, .inl (a0 + a1)), (4, .inl x4)]) dX10_cornersAt_87 (Nat.le_of_ble_eq_true rfl) rfl ?_
  exact sn10_cornersAt_b88 cx hk5 hres
set_option maxRecDepth 20000 in
theorem sn10_cornersAt_b85 {l : Launch} {G : am_G} {v : Int32} {M' : am_Mem} {N : Nat} {k5 : Nat → Int32 → Int32 → Int32 → Int32 → am_Mem → Option (Int32 × am_Mem)} (cx : am_Ctx l rm10_cornersAt yX10_cornersAt cX10_cornersAt 7 (some .int) (some (.inl v)) M' 0 0 G) (hk5 : ∀ (r0 : Nat) (x1 : Int32) (x2 : Int32) (x3 : Int32) (x4 : Int32) (M : am_Mem), k5 r0 x1 x2 x3 x4 M = some (v, M') → G 5 [(0, .inr (.inr (.inl r0))), (1, .inl x1), (2, .inl x2), (3, .inl x3), (4, .inl x4)] [] M 0 0) {a0 : Int32} {r0 : Nat} {x1 : Int32} {x2 : Int32} {x4 : Int32} {M : am_Mem} (hres : fn10_cornersAt_b85 N k5 a0 r0 x1 x2 x4 M = some (v, M')) : G 85 [(0, .inr (.inr (.inl r0))), (1, .inl x1), (2, .inl x2), (4, .inl x4)] [.inl a0] M 0 0 := by
  unfold fn10_cornersAt_b85 at hres
  refine am_iconst cx (v := (0 : Int32)) dX10_cornersAt_85 (by decide) ?_
  exact sn10_cornersAt_b86 cx hk5 hres
set_option maxRecDepth 20000 in
theorem sn10_cornersAt_b68 {l : Launch} {G : am_G} {v : Int32} {M' : am_Mem} {N : Nat} {k5 : Nat → Int32 → Int32 → Int32 → Int32 → am_Mem → Option (Int32 × am_Mem)} (cx : am_Ctx l rm10_cornersAt yX10_cornersAt cX10_cornersAt 7 (some .int) (some (.inl v)) M' 0 0 G) (hk5 : ∀ (r0 : Nat) (x1 : Int32) (x2 : Int32) (x3 : Int32) (x4 : Int32) (M : am_Mem), k5 r0 x1 x2 x3 x4 M = some (v, M') → G 5 [(0, .inr (.inr (.inl r0))), (1, .inl x1), (2, .inl x2), (3, .inl x3), (4, .inl x4)] [] M 0 0) {a0 : Int32} {r0 : Nat} {x1 : Int32} {x2 : Int32} {x3 : Int32} {x4 : Int32} {x5 : Int32} {M : am_Mem} (hres : fn10_cornersAt_b68 N k5 a0 r0 x1 x2 x3 x4 x5 M = some (v, M')) : G 68 [(0, .inr (.inr (.inl r0))), (1, .inl x1), (2, .inl x2), (3, .inl x3), (4, .inl x4), (5, .inl x5)] [.inl a0] M 0 0 := by
  unfold fn10_cornersAt_b68 at hres
  refine am_istore cx (lv' := [(0, .inr (.inr (.inl r0))), (1, .inl x1), (2, .inl x2), (3, .inl x3), (4, .inl x4), (5, .inl x5), (6, .inl a0)]) dX10_cornersAt_68 (Nat.le_of_ble_eq_true rfl) rfl ?_
  refine am_iload_n cx 3 dX10_cornersAt_70 rfl ?_
  refine am_iload cx 5 dX10_cornersAt_71 rfl ?_
  refine am_if_eq cx (tgt := 85) dX10_cornersAt_73 (by decide) (fun h => ?_) (fun h => ?_)
  · have hres := am_ifp h hres
    refine am_sub cx [0, 1, 2, 4] rfl ?_
    exact sn10_cornersAt_b85 cx hk5 hres
  · have hres := am_ifn h hres
    refine am_iload cx 6 dX10_cornersAt_76 rfl ?_
    refine am_if_eq cx (tgt := 85) dX10_cornersAt_78 (by decide) (fun h => ?_) (fun h => ?_)
    · have hres := am_ifp h hres
      refine am_sub cx [0, 1, 2, 4] rfl ?_
      exact sn10_cornersAt_b85 cx hk5 hres
    · have hres := am_ifn h hres
      refine am_iconst cx (v := (1 : Int32)) dX10_cornersAt_81 (by decide) ?_
      refine am_goto cx (tgt := 86) dX10_cornersAt_82 (by decide) ?_
      refine am_sub cx [0, 1, 2, 4] rfl ?_
      exact sn10_cornersAt_b86 cx hk5 hres
set_option maxRecDepth 20000 in
theorem sn10_cornersAt_b63 {l : Launch} {G : am_G} {v : Int32} {M' : am_Mem} {N : Nat} {k5 : Nat → Int32 → Int32 → Int32 → Int32 → am_Mem → Option (Int32 × am_Mem)} (cx : am_Ctx l rm10_cornersAt yX10_cornersAt cX10_cornersAt 7 (some .int) (some (.inl v)) M' 0 0 G) (hk5 : ∀ (r0 : Nat) (x1 : Int32) (x2 : Int32) (x3 : Int32) (x4 : Int32) (M : am_Mem), k5 r0 x1 x2 x3 x4 M = some (v, M') → G 5 [(0, .inr (.inr (.inl r0))), (1, .inl x1), (2, .inl x2), (3, .inl x3), (4, .inl x4)] [] M 0 0) {r0 : Nat} {x1 : Int32} {x2 : Int32} {x3 : Int32} {x4 : Int32} {x5 : Int32} {M : am_Mem} (hres : fn10_cornersAt_b63 N k5 r0 x1 x2 x3 x4 x5 M = some (v, M')) : G 63 [(0, .inr (.inr (.inl r0))), (1, .inl x1), (2, .inl x2), (3, .inl x3), (4, .inl x4), (5, .inl x5)] [] M 0 0 := by
  unfold fn10_cornersAt_b63 at hres
  refine am_iconst cx (v := (1 : Int32)) dX10_cornersAt_63 (by decide) ?_
  refine am_goto cx (tgt := 68) dX10_cornersAt_64 (by decide) ?_
  exact sn10_cornersAt_b68 cx hk5 hres
set_option maxRecDepth 20000 in
theorem sn10_cornersAt_b40 {l : Launch} {G : am_G} {v : Int32} {M' : am_Mem} {N : Nat} {k5 : Nat → Int32 → Int32 → Int32 → Int32 → am_Mem → Option (Int32 × am_Mem)} (cx : am_Ctx l rm10_cornersAt yX10_cornersAt cX10_cornersAt 7 (some .int) (some (.inl v)) M' 0 0 G) (hk5 : ∀ (r0 : Nat) (x1 : Int32) (x2 : Int32) (x3 : Int32) (x4 : Int32) (M : am_Mem), k5 r0 x1 x2 x3 x4 M = some (v, M') → G 5 [(0, .inr (.inr (.inl r0))), (1, .inl x1), (2, .inl x2), (3, .inl x3), (4, .inl x4)] [] M 0 0) {a0 : Int32} {r0 : Nat} {x1 : Int32} {x2 : Int32} {x3 : Int32} {x4 : Int32} {M : am_Mem} (hres : fn10_cornersAt_b40 N k5 a0 r0 x1 x2 x3 x4 M = some (v, M')) : G 40 [(0, .inr (.inr (.inl r0))), (1, .inl x1), (2, .inl x2), (3, .inl x3), (4, .inl x4)] [.inl a0] M 0 0 := by
  unfold fn10_cornersAt_b40 at hres
  refine am_istore cx (lv' := [(0, .inr (.inr (.inl r0))), (1, .inl x1), (2, .inl x2), (3, .inl x3), (4, .inl x4), (5, .inl a0)]) dX10_cornersAt_40 (Nat.le_of_ble_eq_true rfl) rfl ?_
  refine am_aload_n cx 0 dX10_cornersAt_42 rfl ?_
  obtain ⟨q1, hres⟩ := am_ck_some hres
  refine am_getR cx dX10_cornersAt_43 flX10_45 (am_ke q1) ?_
  refine am_iload cx 4 dX10_cornersAt_46 rfl ?_
  obtain ⟨q2, hres⟩ := am_ck_some hres
  obtain ⟨q3, hres⟩ := am_ck_some hres
  refine am_iald cx dX10_cornersAt_48 (am_ke q2) q3 ?_
  refine am_iload_n cx 2 dX10_cornersAt_49 rfl ?_
  refine am_icmp_eq cx (tgt := 63) dX10_cornersAt_50 (by decide) (fun h => ?_) (fun h => ?_)
  · have hres := am_ifp h hres
    exact sn10_cornersAt_b63 cx hk5 hres
  · have hres := am_ifn h hres
    refine am_aload_n cx 0 dX10_cornersAt_53 rfl ?_
    refine am_iload cx 4 dX10_cornersAt_54 rfl ?_
    obtain ⟨v4, M5, q6, hres⟩ := am_bd_some hres
    refine am_callV1 cx [.inl x4] dX10_cornersAt_56 cvX10_72 (mt10_bottom q6) (am_ke q1) ⟨rfl, rfl, Nat.le_of_ble_eq_true rfl, Nat.le_of_ble_eq_true rfl⟩ rfl (Nat.le_of_ble_eq_true rfl) ⟨Nat.le_of_ble_eq_true rfl, Nat.le_of_ble_eq_true rfl⟩ ?_
    refine am_iload_n cx 2 dX10_cornersAt_59 rfl ?_
    refine am_icmp_ne cx (tgt := 67) dX10_cornersAt_60 (by decide) (fun h => ?_) (fun h => ?_)
    · have hres := am_ifn h hres
      refine am_iconst cx (v := (0 : Int32)) dX10_cornersAt_67 (by decide) ?_
      exact sn10_cornersAt_b68 cx hk5 hres
    · have hres := am_ifp h hres
      exact sn10_cornersAt_b63 cx hk5 hres
set_option maxRecDepth 20000 in
theorem sn10_cornersAt_b35 {l : Launch} {G : am_G} {v : Int32} {M' : am_Mem} {N : Nat} {k5 : Nat → Int32 → Int32 → Int32 → Int32 → am_Mem → Option (Int32 × am_Mem)} (cx : am_Ctx l rm10_cornersAt yX10_cornersAt cX10_cornersAt 7 (some .int) (some (.inl v)) M' 0 0 G) (hk5 : ∀ (r0 : Nat) (x1 : Int32) (x2 : Int32) (x3 : Int32) (x4 : Int32) (M : am_Mem), k5 r0 x1 x2 x3 x4 M = some (v, M') → G 5 [(0, .inr (.inr (.inl r0))), (1, .inl x1), (2, .inl x2), (3, .inl x3), (4, .inl x4)] [] M 0 0) {r0 : Nat} {x1 : Int32} {x2 : Int32} {x3 : Int32} {x4 : Int32} {M : am_Mem} (hres : fn10_cornersAt_b35 N k5 r0 x1 x2 x3 x4 M = some (v, M')) : G 35 [(0, .inr (.inr (.inl r0))), (1, .inl x1), (2, .inl x2), (3, .inl x3), (4, .inl x4)] [] M 0 0 := by
  unfold fn10_cornersAt_b35 at hres
  refine am_iconst cx (v := (1 : Int32)) dX10_cornersAt_35 (by decide) ?_
  refine am_goto cx (tgt := 40) dX10_cornersAt_36 (by decide) ?_
  exact sn10_cornersAt_b40 cx hk5 hres
set_option maxRecDepth 20000 in
theorem sn10_cornersAt_b5B {l : Launch} {G : am_G} {v : Int32} {M' : am_Mem} {N : Nat} {k5 : Nat → Int32 → Int32 → Int32 → Int32 → am_Mem → Option (Int32 × am_Mem)} (cx : am_Ctx l rm10_cornersAt yX10_cornersAt cX10_cornersAt 7 (some .int) (some (.inl v)) M' 0 0 G) (hk5 : ∀ (r0 : Nat) (x1 : Int32) (x2 : Int32) (x3 : Int32) (x4 : Int32) (M : am_Mem), k5 r0 x1 x2 x3 x4 M = some (v, M') → G 5 [(0, .inr (.inr (.inl r0))), (1, .inl x1), (2, .inl x2), (3, .inl x3), (4, .inl x4)] [] M 0 0) {r0 : Nat} {x1 : Int32} {x2 : Int32} {x3 : Int32} {x4 : Int32} {M : am_Mem} (hres : fn10_cornersAt_b5B N k5 r0 x1 x2 x3 x4 M = some (v, M')) : G 5 [(0, .inr (.inr (.inl r0))), (1, .inl x1), (2, .inl x2), (3, .inl x3), (4, .inl x4)] [] M 0 0 := by
  unfold fn10_cornersAt_b5B at hres
  refine am_iload cx 4 dX10_cornersAt_5 rfl ?_
  refine am_aload_n cx 0 dX10_cornersAt_7 rfl ?_
  obtain ⟨q1, hres⟩ := am_ck_some hres
  refine am_getI cx dX10_cornersAt_8 flX10_32 (am_ke q1) ?_
  refine am_icmp_ge cx (tgt := 94) dX10_cornersAt_11 (by decide) (fun h => ?_) (fun h => ?_)
  · have hres := am_ifp h hres
    refine am_iload_n cx 3 dX10_cornersAt_94 rfl ?_
    obtain ⟨rfl, rfl⟩ := am_fin hres
    exact am_iret cx dX10_cornersAt_95
  · have hres := am_ifn h hres
    refine am_aload_n cx 0 dX10_cornersAt_14 rfl ?_
    refine am_getR cx dX10_cornersAt_15 flX10_41 (am_ke q1) ?_
    refine am_iload cx 4 dX10_cornersAt_18 rfl ?_
    obtain ⟨q2, hres⟩ := am_ck_some hres
    obtain ⟨q3, hres⟩ := am_ck_some hres
    refine am_iald cx dX10_cornersAt_20 (am_ke q2) q3 ?_
    refine am_iload_n cx 1 dX10_cornersAt_21 rfl ?_
    refine am_icmp_eq cx (tgt := 35) dX10_cornersAt_22 (by decide) (fun h => ?_) (fun h => ?_)
    · have hres := am_ifp h hres
      exact sn10_cornersAt_b35 cx hk5 hres
    · have hres := am_ifn h hres
      refine am_aload_n cx 0 dX10_cornersAt_25 rfl ?_
      refine am_iload cx 4 dX10_cornersAt_26 rfl ?_
      obtain ⟨v4, M5, q6, hres⟩ := am_bd_some hres
      refine am_callV1 cx [.inl x4] dX10_cornersAt_28 cvX10_60 (mt10_right q6) (am_ke q1) ⟨rfl, rfl, Nat.le_of_ble_eq_true rfl, Nat.le_of_ble_eq_true rfl⟩ rfl (Nat.le_of_ble_eq_true rfl) ⟨Nat.le_of_ble_eq_true rfl, Nat.le_of_ble_eq_true rfl⟩ ?_
      refine am_iload_n cx 1 dX10_cornersAt_31 rfl ?_
      refine am_icmp_ne cx (tgt := 39) dX10_cornersAt_32 (by decide) (fun h => ?_) (fun h => ?_)
      · have hres := am_ifn h hres
        refine am_iconst cx (v := (0 : Int32)) dX10_cornersAt_39 (by decide) ?_
        exact sn10_cornersAt_b40 cx hk5 hres
      · have hres := am_ifp h hres
        exact sn10_cornersAt_b35 cx hk5 hres
set_option maxRecDepth 20000 in
theorem sn10_cornersAt_b5 {l : Launch} {G : am_G} {v : Int32} {M' : am_Mem} {N : Nat}  (cx : am_Ctx l rm10_cornersAt yX10_cornersAt cX10_cornersAt 7 (some .int) (some (.inl v)) M' 0 0 G)  (i : Nat) : ∀ (r0 : Nat) (x1 : Int32) (x2 : Int32) (x3 : Int32) (x4 : Int32) (M : am_Mem), fn10_cornersAt_b5 N  i r0 x1 x2 x3 x4 M = some (v, M') → G 5 [(0, .inr (.inr (.inl r0))), (1, .inl x1), (2, .inl x2), (3, .inl x3), (4, .inl x4)] [] M 0 0 := by
  induction i with
  | zero => intro r0 x1 x2 x3 x4 M hres; exact am_no hres
  | succ i ih => intro r0 x1 x2 x3 x4 M hres; exact sn10_cornersAt_b5B cx ih hres
set_option maxRecDepth 20000 in
theorem sn10_cornersAt_b0 {l : Launch} {G : am_G} {v : Int32} {M' : am_Mem} {N : Nat}  (cx : am_Ctx l rm10_cornersAt yX10_cornersAt cX10_cornersAt 7 (some .int) (some (.inl v)) M' 0 0 G)  {r0 : Nat} {x1 : Int32} {x2 : Int32} {M : am_Mem} (hres : fn10_cornersAt_b0 N  r0 x1 x2 M = some (v, M')) : G 0 [(0, .inr (.inr (.inl r0))), (1, .inl x1), (2, .inl x2)] [] M 0 0 := by
  unfold fn10_cornersAt_b0 at hres
  refine am_iconst cx (v := (0 : Int32)) dX10_cornersAt_0 (by decide) ?_
  refine am_istore_n cx (lv' := [(0, .inr (.inr (.inl r0))), (1, .inl x1), (2, .inl x2), (3, .inl (0 : Int32))]) dX10_cornersAt_1 (Nat.le_of_ble_eq_true rfl) rfl ?_
  refine am_iconst cx (v := (0 : Int32)) dX10_cornersAt_2 (by decide) ?_
  refine am_istore cx (lv' := [(0, .inr (.inr (.inl r0))), (1, .inl x1), (2, .inl x2), (3, .inl (0 : Int32)), (4, .inl (0 : Int32))]) dX10_cornersAt_3 (Nat.le_of_ble_eq_true rfl) rfl ?_
  exact sn10_cornersAt_b5 cx  N _ _ _ _ _ _ hres
set_option maxRecDepth 20000 in
theorem mt10_cornersAt {l : Launch} {v : Int32} {M M' : am_Mem} {N : Nat} {r0 : Nat} {x1 : Int32} {x2 : Int32} (h : fn10_cornersAt N M r0 x1 x2 = some (v, M')) : am_Met l yX10_cornersAt cX10_cornersAt 7 (some .int) rm10_cornersAt 0 0 [.inr (.inr (.inl r0)), .inl x1, .inl x2] M (some (.inl v)) M' := am_mk (by decide) (Nat.le_of_ble_eq_true rfl) (fun G cx => (sn10_cornersAt_b0 cx h))
-- SquareCuts.feed
def fn11_feed_b0 (N : Nat)  (r0 : Nat) (x1 : Int32) (x2 : Int32) (x3 : Int32) (x4 : Int32) (x5 : Int32) (M : am_Mem) : Option (Int32 × am_Mem) :=
  am_ck (am_k M r0 11) (am_ck (am_k M (am_R M r0 0) 8) (if ((am_I M (am_R M r0 0) 7) + (20 : Int32)) ≤ (600 : Int32) then am_bd (fn8_takeFourBytes N M (am_R M r0 0) x1) (fun v3 M4 => am_ck (am_k M4 r0 11) (am_ck (am_k M4 (am_R M4 r0 0) 8) (am_bd (fn8_takeFourBytes N M4 (am_R M4 r0 0) x2) (fun v8 M9 => am_ck (am_k M9 r0 11) (am_ck (am_k M9 (am_R M9 r0 0) 8) (am_bd (fn8_takeFourBytes N M9 (am_R M9 r0 0) x3) (fun v13 M14 => am_ck (am_k M14 r0 11) (am_ck (am_k M14 (am_R M14 r0 0) 8) (am_bd (fn8_takeFourBytes N M14 (am_R M14 r0 0) x4) (fun v18 M19 => am_ck (am_k M19 r0 11) (am_ck (am_k M19 (am_R M19 r0 0) 8) (am_bd (fn8_takeFourBytes N M19 (am_R M19 r0 0) x5) (fun v23 M24 => am_ck (am_k M24 r0 11) (am_ck (am_k M24 (am_R M24 r0 0) 8) (some ((am_I M24 (am_R M24 r0 0) 7), M24)))))))))))))))) else some ((-1 : Int32), M)))
def fn11_feed (N : Nat) (M : am_Mem) (r0 : Nat) (x1 : Int32) (x2 : Int32) (x3 : Int32) (x4 : Int32) (x5 : Int32) : Option (Int32 × am_Mem) := fn11_feed_b0 N r0 x1 x2 x3 x4 x5 M
def rm11_feed : Room := { frames := 1, cells := 0, slots := 0, locals := 22 }
set_option maxRecDepth 20000 in
theorem sn11_feed_b0 {l : Launch} {G : am_G} {v : Int32} {M' : am_Mem} {N : Nat}  (cx : am_Ctx l rm11_feed yX11_feed cX11_feed 6 (some .int) (some (.inl v)) M' 0 0 G)  {r0 : Nat} {x1 : Int32} {x2 : Int32} {x3 : Int32} {x4 : Int32} {x5 : Int32} {M : am_Mem} (hres : fn11_feed_b0 N  r0 x1 x2 x3 x4 x5 M = some (v, M')) : G 0 [(0, .inr (.inr (.inl r0))), (1, .inl x1), (2, .inl x2), (3, .inl x3), (4, .inl x4), (5, .inl x5)] [] M 0 0 := by
  unfold fn11_feed_b0 at hres
  refine am_aload_n cx 0 dX11_feed_0 rfl ?_
  obtain ⟨q1, hres⟩ := am_ck_some hres
  refine am_getR cx dX11_feed_1 flX11_12 (am_ke q1) ?_
  obtain ⟨q2, hres⟩ := am_ck_some hres
  refine am_getI cx dX11_feed_4 flX11_76 (am_ke q2) ?_
  refine am_bipush cx (v := (20 : Int32)) dX11_feed_7 (by decide) ?_
  refine am_iadd cx dX11_feed_9 ?_
  refine am_sipush cx (v := (600 : Int32)) dX11_feed_10 (by decide) ?_
  refine am_icmp_le cx (tgt := 18) dX11_feed_13 (by decide) (fun h => ?_) (fun h => ?_)
  · have hres := am_ifp h hres
    refine am_aload_n cx 0 dX11_feed_18 rfl ?_
    refine am_getR cx dX11_feed_19 flX11_12 (am_ke q1) ?_
    refine am_iload_n cx 1 dX11_feed_22 rfl ?_
    obtain ⟨v3, M4, q5, hres⟩ := am_bd_some hres
    refine am_callV0 cx [.inl x1] dX11_feed_23 cvX11_80 (mt8_takeFourBytes q5) (am_ke q2) ⟨rfl, rfl, Nat.le_of_ble_eq_true rfl, Nat.le_of_ble_eq_true rfl⟩ rfl (Nat.le_of_ble_eq_true rfl) ⟨Nat.le_of_ble_eq_true rfl, Nat.le_of_ble_eq_true rfl⟩ ?_
    refine am_aload_n cx 0 dX11_feed_26 rfl ?_
    obtain ⟨q6, hres⟩ := am_ck_some hres
    refine am_getR cx dX11_feed_27 flX11_12 (am_ke q6) ?_
    refine am_iload_n cx 2 dX11_feed_30 rfl ?_
    obtain ⟨q7, hres⟩ := am_ck_some hres
    obtain ⟨v8, M9, q10, hres⟩ := am_bd_some hres
    refine am_callV0 cx [.inl x2] dX11_feed_31 cvX11_80 (mt8_takeFourBytes q10) (am_ke q7) ⟨rfl, rfl, Nat.le_of_ble_eq_true rfl, Nat.le_of_ble_eq_true rfl⟩ rfl (Nat.le_of_ble_eq_true rfl) ⟨Nat.le_of_ble_eq_true rfl, Nat.le_of_ble_eq_true rfl⟩ ?_
    refine am_aload_n cx 0 dX11_feed_34 rfl ?_
    obtain ⟨q11, hres⟩ := am_ck_some hres
    refine am_getR cx dX11_feed_35 flX11_12 (am_ke q11) ?_
    refine am_iload_n cx 3 dX11_feed_38 rfl ?_
    obtain ⟨q12, hres⟩ := am_ck_some hres
    obtain ⟨v13, M14, q15, hres⟩ := am_bd_some hres
    refine am_callV0 cx [.inl x3] dX11_feed_39 cvX11_80 (mt8_takeFourBytes q15) (am_ke q12) ⟨rfl, rfl, Nat.le_of_ble_eq_true rfl, Nat.le_of_ble_eq_true rfl⟩ rfl (Nat.le_of_ble_eq_true rfl) ⟨Nat.le_of_ble_eq_true rfl, Nat.le_of_ble_eq_true rfl⟩ ?_
    refine am_aload_n cx 0 dX11_feed_42 rfl ?_
    obtain ⟨q16, hres⟩ := am_ck_some hres
    refine am_getR cx dX11_feed_43 flX11_12 (am_ke q16) ?_
    refine am_iload cx 4 dX11_feed_46 rfl ?_
    obtain ⟨q17, hres⟩ := am_ck_some hres
    obtain ⟨v18, M19, q20, hres⟩ := am_bd_some hres
    refine am_callV0 cx [.inl x4] dX11_feed_48 cvX11_80 (mt8_takeFourBytes q20) (am_ke q17) ⟨rfl, rfl, Nat.le_of_ble_eq_true rfl, Nat.le_of_ble_eq_true rfl⟩ rfl (Nat.le_of_ble_eq_true rfl) ⟨Nat.le_of_ble_eq_true rfl, Nat.le_of_ble_eq_true rfl⟩ ?_
    refine am_aload_n cx 0 dX11_feed_51 rfl ?_
    obtain ⟨q21, hres⟩ := am_ck_some hres
    refine am_getR cx dX11_feed_52 flX11_12 (am_ke q21) ?_
    refine am_iload cx 5 dX11_feed_55 rfl ?_
    obtain ⟨q22, hres⟩ := am_ck_some hres
    obtain ⟨v23, M24, q25, hres⟩ := am_bd_some hres
    refine am_callV0 cx [.inl x5] dX11_feed_57 cvX11_80 (mt8_takeFourBytes q25) (am_ke q22) ⟨rfl, rfl, Nat.le_of_ble_eq_true rfl, Nat.le_of_ble_eq_true rfl⟩ rfl (Nat.le_of_ble_eq_true rfl) ⟨Nat.le_of_ble_eq_true rfl, Nat.le_of_ble_eq_true rfl⟩ ?_
    refine am_aload_n cx 0 dX11_feed_60 rfl ?_
    obtain ⟨q26, hres⟩ := am_ck_some hres
    refine am_getR cx dX11_feed_61 flX11_12 (am_ke q26) ?_
    obtain ⟨q27, hres⟩ := am_ck_some hres
    refine am_getI cx dX11_feed_64 flX11_76 (am_ke q27) ?_
    obtain ⟨rfl, rfl⟩ := am_fin hres
    exact am_iret cx dX11_feed_67
  · have hres := am_ifn h hres
    refine am_iconst cx (v := (-1 : Int32)) dX11_feed_16 (by decide) ?_
    obtain ⟨rfl, rfl⟩ := am_fin hres
    exact am_iret cx dX11_feed_17
set_option maxRecDepth 20000 in
theorem mt11_feed {l : Launch} {v : Int32} {M M' : am_Mem} {N : Nat} {r0 : Nat} {x1 : Int32} {x2 : Int32} {x3 : Int32} {x4 : Int32} {x5 : Int32} (h : fn11_feed N M r0 x1 x2 x3 x4 x5 = some (v, M')) : am_Met l yX11_feed cX11_feed 6 (some .int) rm11_feed 0 0 [.inr (.inr (.inl r0)), .inl x1, .inl x2, .inl x3, .inl x4, .inl x5] M (some (.inl v)) M' := am_mk (by decide) (Nat.le_of_ble_eq_true rfl) (fun G cx => (sn11_feed_b0 cx h))
-- SquareCuts.square
def fn11_square_b28   (M : am_Mem) : Option (Int32 × am_Mem) :=
  none
def fn11_square_b0  (r0 : Nat) (x1 : Int32) (x2 : Int32) (x3 : Int32) (M : am_Mem) : Option (Int32 × am_Mem) :=
  am_ck (am_k M r0 11) (am_ck (am_k M (am_R M r0 8) 9) (am_bd (fn9_find M (am_R M r0 8) x1) (fun v3 M4 => if v3 = 0 then fn11_square_b28   M4 else if x2 < 0 then fn11_square_b28   M4 else am_ck (am_k M4 v3 10) (if x2 < (am_I M4 v3 4) then if x3 = (0 : Int32) then (am_ck (am_k M4 (am_R M4 v3 7) 14) (am_ck (am_in x2 (am_L M4 (am_R M4 v3 7))) (some ((am_I M4 (am_R M4 v3 7) x2.toNatClampNeg), M4)))) else (if x3 = (1 : Int32) then (am_ck (am_k M4 (am_R M4 v3 8) 14) (am_ck (am_in x2 (am_L M4 (am_R M4 v3 8))) (some ((am_I M4 (am_R M4 v3 8) x2.toNatClampNeg), M4)))) else (if x3 = (2 : Int32) then (am_ck (am_k M4 (am_R M4 v3 9) 14) (am_ck (am_in x2 (am_L M4 (am_R M4 v3 9))) (some ((am_I M4 (am_R M4 v3 9) x2.toNatClampNeg), M4)))) else (none))) else fn11_square_b28   M4))))
def fn11_square (M : am_Mem) (r0 : Nat) (x1 : Int32) (x2 : Int32) (x3 : Int32) : Option (Int32 × am_Mem) := fn11_square_b0  r0 x1 x2 x3 M
def rm11_square : Room := { frames := 1, cells := 0, slots := 0, locals := 21 }
set_option maxRecDepth 20000 in
theorem sn11_square_b28 {l : Launch} {G : am_G} {v : Int32} {M' : am_Mem}  (cx : am_Ctx l rm11_square yX11_square cX11_square 5 (some .int) (some (.inl v)) M' 0 0 G)   {M : am_Mem} (hres : fn11_square_b28   M = some (v, M')) : G 28 [] [] M 0 0 := by
  unfold fn11_square_b28 at hres
  exact am_no hres
set_option maxRecDepth 20000 in
theorem sn11_square_b0 {l : Launch} {G : am_G} {v : Int32} {M' : am_Mem}  (cx : am_Ctx l rm11_square yX11_square cX11_square 5 (some .int) (some (.inl v)) M' 0 0 G)  {r0 : Nat} {x1 : Int32} {x2 : Int32} {x3 : Int32} {M : am_Mem} (hres : fn11_square_b0  r0 x1 x2 x3 M = some (v, M')) : G 0 [(0, .inr (.inr (.inl r0))), (1, .inl x1), (2, .inl x2), (3, .inl x3)] [] M 0 0 := by
  unfold fn11_square_b0 at hres
  refine am_aload_n cx 0 dX11_square_0 rfl ?_
  obtain ⟨q1, hres⟩ := am_ck_some hres
  refine am_getR cx dX11_square_1 flX11_66 (am_ke q1) ?_
  refine am_iload_n cx 1 dX11_square_4 rfl ?_
  obtain ⟨q2, hres⟩ := am_ck_some hres
  obtain ⟨v3, M4, q5, hres⟩ := am_bd_some hres
  refine am_callV1 cx [.inl x1] dX11_square_5 cvX11_115 (mt9_find q5) (am_ke q2) ⟨rfl, rfl, Nat.le_of_ble_eq_true rfl, Nat.le_of_ble_eq_true rfl⟩ rfl (Nat.le_of_ble_eq_true rfl) ⟨Nat.le_of_ble_eq_true rfl, Nat.le_of_ble_eq_true rfl⟩ ?_
  refine am_astore cx (lv' := [(0, .inr (.inr (.inl r0))), (1, .inl x1), (2, .inl x2), (3, .inl x3), (4, .inr (.inr (.inl v3)))]) dX11_square_8 (Nat.le_of_ble_eq_true rfl) rfl ?_
  refine am_aload cx 4 dX11_square_10 rfl ?_
  refine am_ifnull cx (tgt := 28) dX11_square_12 (by decide) (fun h => ?_) (fun h => ?_)
  · have hres := am_ifp h hres
    refine am_sub cx [] rfl ?_
    exact sn11_square_b28 cx  hres
  · have hres := am_ifn h hres
    refine am_iload_n cx 2 dX11_square_15 rfl ?_
    refine am_if_lt cx (tgt := 28) dX11_square_16 (by decide) (fun h => ?_) (fun h => ?_)
    · have hres := am_ifp h hres
      refine am_sub cx [] rfl ?_
      exact sn11_square_b28 cx  hres
    · have hres := am_ifn h hres
      refine am_iload_n cx 2 dX11_square_19 rfl ?_
      refine am_aload cx 4 dX11_square_20 rfl ?_
      obtain ⟨q6, hres⟩ := am_ck_some hres
      refine am_getI cx dX11_square_22 flX11_127 (am_ke q6) ?_
      refine am_icmp_lt cx (tgt := 38) dX11_square_25 (by decide) (fun h => ?_) (fun h => ?_)
      · have hres := am_ifp h hres
        refine am_iload_n cx 3 dX11_square_38 rfl ?_
        by_cases w7 : x3 = (0 : Int32)
        · refine am_tableIn cx (tgt := 64) (off := 25) dX11_square_39 (by rw [w7]; decide) (by rw [w7]; decide) (by rw [w7]; decide) (by decide) ?_
          have hres := am_ifp w7 hres
          refine am_aload cx 4 dX11_square_64 rfl ?_
          refine am_getR cx dX11_square_66 flX11_154 (am_ke q6) ?_
          refine am_iload_n cx 2 dX11_square_69 rfl ?_
          obtain ⟨q8, hres⟩ := am_ck_some hres
          obtain ⟨q9, hres⟩ := am_ck_some hres
          refine am_iald cx dX11_square_70 (am_ke q8) q9 ?_
          obtain ⟨rfl, rfl⟩ := am_fin hres
          exact am_iret cx dX11_square_71
        have hres := am_ifn w7 hres
        by_cases w10 : x3 = (1 : Int32)
        · refine am_tableIn cx (tgt := 72) (off := 33) dX11_square_39 (by rw [w10]; decide) (by rw [w10]; decide) (by rw [w10]; decide) (by decide) ?_
          have hres := am_ifp w10 hres
          refine am_aload cx 4 dX11_square_72 rfl ?_
          refine am_getR cx dX11_square_74 flX11_158 (am_ke q6) ?_
          refine am_iload_n cx 2 dX11_square_77 rfl ?_
          obtain ⟨q11, hres⟩ := am_ck_some hres
          obtain ⟨q12, hres⟩ := am_ck_some hres
          refine am_iald cx dX11_square_78 (am_ke q11) q12 ?_
          obtain ⟨rfl, rfl⟩ := am_fin hres
          exact am_iret cx dX11_square_79
        have hres := am_ifn w10 hres
        by_cases w13 : x3 = (2 : Int32)
        · refine am_tableIn cx (tgt := 80) (off := 41) dX11_square_39 (by rw [w13]; decide) (by rw [w13]; decide) (by rw [w13]; decide) (by decide) ?_
          have hres := am_ifp w13 hres
          refine am_aload cx 4 dX11_square_80 rfl ?_
          refine am_getR cx dX11_square_82 flX11_161 (am_ke q6) ?_
          refine am_iload_n cx 2 dX11_square_85 rfl ?_
          obtain ⟨q14, hres⟩ := am_ck_some hres
          obtain ⟨q15, hres⟩ := am_ck_some hres
          refine am_iald cx dX11_square_86 (am_ke q14) q15 ?_
          obtain ⟨rfl, rfl⟩ := am_fin hres
          exact am_iret cx dX11_square_87
        have hres := am_ifn w13 hres
        refine am_tableOut cx (tgt := 88) dX11_square_39 (am_sw (fun cq h1 h2 => ?_)) (by decide) ?_
        · rcases (show cq = 0 ∨ cq = 1 ∨ cq = 2 by omega) with rfl | rfl | rfl
          · exact w7
          · exact w10
          · exact w13
        skip
        exact am_no hres
      · have hres := am_ifn h hres
        refine am_sub cx [] rfl ?_
        exact sn11_square_b28 cx  hres
set_option maxRecDepth 20000 in
theorem mt11_square {l : Launch} {v : Int32} {M M' : am_Mem} {r0 : Nat} {x1 : Int32} {x2 : Int32} {x3 : Int32} (h : fn11_square M r0 x1 x2 x3 = some (v, M')) : am_Met l yX11_square cX11_square 5 (some .int) rm11_square 0 0 [.inr (.inr (.inl r0)), .inl x1, .inl x2, .inl x3] M (some (.inl v)) M' := am_mk (by decide) (Nat.le_of_ble_eq_true rfl) (fun G cx => (sn11_square_b0 cx h))
-- SquareCuts.laid
def fn11_laid_b31  (a0 : Int32) (M : am_Mem) : Option (Int32 × am_Mem) :=
  some (a0, M)
def fn11_laid_b0  (r0 : Nat) (x1 : Int32) (M : am_Mem) : Option (Int32 × am_Mem) :=
  am_ck (am_k M r0 11) (am_ck (am_k M (am_R M r0 8) 9) (am_bd (fn9_find M (am_R M r0 8) x1) (fun v3 M4 => if v3 = 0 then some ((-1 : Int32), M4) else am_ck (am_k M4 v3 10) (if (am_I M4 v3 0) = 0 then fn11_laid_b31  (am_I M4 v3 2) M4 else fn11_laid_b31  (-2 : Int32) M4))))
def fn11_laid (M : am_Mem) (r0 : Nat) (x1 : Int32) : Option (Int32 × am_Mem) := fn11_laid_b0  r0 x1 M
def rm11_laid : Room := { frames := 1, cells := 0, slots := 0, locals := 21 }
set_option maxRecDepth 20000 in
theorem sn11_laid_b31 {l : Launch} {G : am_G} {v : Int32} {M' : am_Mem}  (cx : am_Ctx l rm11_laid yX11_laid cX11_laid 3 (some .int) (some (.inl v)) M' 0 0 G)  {a0 : Int32} {M : am_Mem} (hres : fn11_laid_b31  a0 M = some (v, M')) : G 31 [] [.inl a0] M 0 0 := by
  unfold fn11_laid_b31 at hres
  obtain ⟨rfl, rfl⟩ := am_fin hres
  exact am_iret cx dX11_laid_31
set_option maxRecDepth 20000 in
theorem sn11_laid_b0 {l : Launch} {G : am_G} {v : Int32} {M' : am_Mem}  (cx : am_Ctx l rm11_laid yX11_laid cX11_laid 3 (some .int) (some (.inl v)) M' 0 0 G)  {r0 : Nat} {x1 : Int32} {M : am_Mem} (hres : fn11_laid_b0  r0 x1 M = some (v, M')) : G 0 [(0, .inr (.inr (.inl r0))), (1, .inl x1)] [] M 0 0 := by
  unfold fn11_laid_b0 at hres
  refine am_aload_n cx 0 dX11_laid_0 rfl ?_
  obtain ⟨q1, hres⟩ := am_ck_some hres
  refine am_getR cx dX11_laid_1 flX11_66 (am_ke q1) ?_
  refine am_iload_n cx 1 dX11_laid_4 rfl ?_
  obtain ⟨q2, hres⟩ := am_ck_some hres
  obtain ⟨v3, M4, q5, hres⟩ := am_bd_some hres
  refine am_callV1 cx [.inl x1] dX11_laid_5 cvX11_115 (mt9_find q5) (am_ke q2) ⟨rfl, rfl, Nat.le_of_ble_eq_true rfl, Nat.le_of_ble_eq_true rfl⟩ rfl (Nat.le_of_ble_eq_true rfl) ⟨Nat.le_of_ble_eq_true rfl, Nat.le_of_ble_eq_true rfl⟩ ?_
  refine am_astore_n cx (lv' := [(0, .inr (.inr (.inl r0))), (1, .inl x1), (2, .inr (.inr (.inl v3)))]) dX11_laid_8 (Nat.le_of_ble_eq_true rfl) rfl ?_
  refine am_aload_n cx 2 dX11_laid_9 rfl ?_
  refine am_ifnonnull cx (tgt := 15) dX11_laid_10 (by decide) (fun h => ?_) (fun h => ?_)
  · have hres := am_ifn h hres
    refine am_aload_n cx 2 dX11_laid_15 rfl ?_
    obtain ⟨q6, hres⟩ := am_ck_some hres
    refine am_getI cx dX11_laid_16 flX11_118 (am_ke q6) ?_
    refine am_if_ne cx (tgt := 29) dX11_laid_19 (by decide) (fun h => ?_) (fun h => ?_)
    · have hres := am_ifn h hres
      refine am_bipush cx (v := (-2 : Int32)) dX11_laid_29 (by decide) ?_
      refine am_sub cx [] rfl ?_
      exact sn11_laid_b31 cx  hres
    · have hres := am_ifp h hres
      refine am_aload_n cx 2 dX11_laid_22 rfl ?_
      refine am_getI cx dX11_laid_23 flX11_166 (am_ke q6) ?_
      refine am_goto cx (tgt := 31) dX11_laid_26 (by decide) ?_
      refine am_sub cx [] rfl ?_
      exact sn11_laid_b31 cx  hres
  · have hres := am_ifp h hres
    refine am_iconst cx (v := (-1 : Int32)) dX11_laid_13 (by decide) ?_
    obtain ⟨rfl, rfl⟩ := am_fin hres
    exact am_iret cx dX11_laid_14
set_option maxRecDepth 20000 in
theorem mt11_laid {l : Launch} {v : Int32} {M M' : am_Mem} {r0 : Nat} {x1 : Int32} (h : fn11_laid M r0 x1 = some (v, M')) : am_Met l yX11_laid cX11_laid 3 (some .int) rm11_laid 0 0 [.inr (.inr (.inl r0)), .inl x1] M (some (.inl v)) M' := am_mk (by decide) (Nat.le_of_ble_eq_true rfl) (fun G cx => (sn11_laid_b0 cx h))
-- SquareCuts.at
def fn11_at_b28  (a0 : Int32) (M : am_Mem) : Option (Int32 × am_Mem) :=
  some (a0, M)
def fn11_at_b15   (M : am_Mem) : Option (Int32 × am_Mem) :=
  fn11_at_b28  (-1 : Int32) M
def fn11_at_b0  (r0 : Nat) (x1 : Int32) (M : am_Mem) : Option (Int32 × am_Mem) :=
  if x1 < 0 then fn11_at_b15   M else am_ck (am_k M r0 11) (am_ck (am_k M (am_R M r0 7) 7) (if x1 < (am_I M (am_R M r0 7) 1) then am_ck (am_k M (am_R M (am_R M r0 7) 0) 13) (am_ck (am_in x1 (am_L M (am_R M (am_R M r0 7) 0))) (fn11_at_b28  (am_I M (am_R M (am_R M r0 7) 0) x1.toNatClampNeg) M)) else fn11_at_b15   M))
def fn11_at (M : am_Mem) (r0 : Nat) (x1 : Int32) : Option (Int32 × am_Mem) := fn11_at_b0  r0 x1 M
def rm11_at : Room := { frames := 0, cells := 0, slots := 0, locals := 0 }
set_option maxRecDepth 20000 in
theorem sn11_at_b28 {l : Launch} {G : am_G} {v : Int32} {M' : am_Mem}  (cx : am_Ctx l rm11_at yX11_at cX11_at 2 (some .int) (some (.inl v)) M' 0 0 G)  {a0 : Int32} {M : am_Mem} (hres : fn11_at_b28  a0 M = some (v, M')) : G 28 [] [.inl a0] M 0 0 := by
  unfold fn11_at_b28 at hres
  obtain ⟨rfl, rfl⟩ := am_fin hres
  exact am_iret cx dX11_at_28
set_option maxRecDepth 20000 in
theorem sn11_at_b15 {l : Launch} {G : am_G} {v : Int32} {M' : am_Mem}  (cx : am_Ctx l rm11_at yX11_at cX11_at 2 (some .int) (some (.inl v)) M' 0 0 G)   {M : am_Mem} (hres : fn11_at_b15   M = some (v, M')) : G 15 [] [] M 0 0 := by
  unfold fn11_at_b15 at hres
  refine am_iconst cx (v := (-1 : Int32)) dX11_at_15 (by decide) ?_
  refine am_goto cx (tgt := 28) dX11_at_16 (by decide) ?_
  exact sn11_at_b28 cx  hres
set_option maxRecDepth 20000 in
theorem sn11_at_b0 {l : Launch} {G : am_G} {v : Int32} {M' : am_Mem}  (cx : am_Ctx l rm11_at yX11_at cX11_at 2 (some .int) (some (.inl v)) M' 0 0 G)  {r0 : Nat} {x1 : Int32} {M : am_Mem} (hres : fn11_at_b0  r0 x1 M = some (v, M')) : G 0 [(0, .inr (.inr (.inl r0))), (1, .inl x1)] [] M 0 0 := by
  unfold fn11_at_b0 at hres
  refine am_iload_n cx 1 dX11_at_0 rfl ?_
  refine am_if_lt cx (tgt := 15) dX11_at_1 (by decide) (fun h => ?_) (fun h => ?_)
  · have hres := am_ifp h hres
    refine am_sub cx [] rfl ?_
    exact sn11_at_b15 cx  hres
  · have hres := am_ifn h hres
    refine am_iload_n cx 1 dX11_at_4 rfl ?_
    refine am_aload_n cx 0 dX11_at_5 rfl ?_
    obtain ⟨q1, hres⟩ := am_ck_some hres
    refine am_getR cx dX11_at_6 flX11_59 (am_ke q1) ?_
    obtain ⟨q2, hres⟩ := am_ck_some hres
    refine am_getI cx dX11_at_9 flX11_179 (am_ke q2) ?_
    refine am_icmp_lt cx (tgt := 19) dX11_at_12 (by decide) (fun h => ?_) (fun h => ?_)
    · have hres := am_ifp h hres
      refine am_aload_n cx 0 dX11_at_19 rfl ?_
      refine am_getR cx dX11_at_20 flX11_59 (am_ke q1) ?_
      refine am_getR cx dX11_at_23 flX11_182 (am_ke q2) ?_
      refine am_iload_n cx 1 dX11_at_26 rfl ?_
      obtain ⟨q3, hres⟩ := am_ck_some hres
      obtain ⟨q4, hres⟩ := am_ck_some hres
      refine am_bald cx dX11_at_27 (am_ke q3) q4 ?_
      refine am_sub cx [] rfl ?_
      exact sn11_at_b28 cx  hres
    · have hres := am_ifn h hres
      refine am_sub cx [] rfl ?_
      exact sn11_at_b15 cx  hres
set_option maxRecDepth 20000 in
theorem mt11_at {l : Launch} {v : Int32} {M M' : am_Mem} {r0 : Nat} {x1 : Int32} (h : fn11_at M r0 x1 = some (v, M')) : am_Met l yX11_at cX11_at 2 (some .int) rm11_at 0 0 [.inr (.inr (.inl r0)), .inl x1] M (some (.inl v)) M' := am_mk (by decide) (Nat.le_of_ble_eq_true rfl) (fun G cx => (sn11_at_b0 cx h))
-- SquareCuts.trees
def fn11_trees_b37  (b0 : Int64) (M : am_Mem) : Option (Int64 × am_Mem) :=
  some (b0, M)
def fn11_trees_b0  (r0 : Nat) (x1 : Int32) (M : am_Mem) : Option (Int64 × am_Mem) :=
  am_ck (am_k M r0 11) (am_ck (am_k M (am_R M r0 8) 9) (am_bd (fn9_find M (am_R M r0 8) x1) (fun v3 M4 => if v3 = 0 then some ((-1 : Int64), M4) else am_ck (am_k M4 v3 10) (if (am_R M4 v3 3) = 0 then fn11_trees_b37  (-2 : Int64) M4 else am_ck (am_k M4 (am_R M4 v3 3) 3) (fn11_trees_b37  (am_J M4 (am_R M4 v3 3) 4) M4)))))
def fn11_trees (M : am_Mem) (r0 : Nat) (x1 : Int32) : Option (Int64 × am_Mem) := fn11_trees_b0  r0 x1 M
def rm11_trees : Room := { frames := 1, cells := 0, slots := 0, locals := 21 }
set_option maxRecDepth 20000 in
theorem sn11_trees_b37 {l : Launch} {G : am_G} {v : Int64} {M' : am_Mem}  (cx : am_Ctx l rm11_trees yX11_trees cX11_trees 3 (some .long) (some (.inr (.inl v))) M' 0 0 G)  {b0 : Int64} {M : am_Mem} (hres : fn11_trees_b37  b0 M = some (v, M')) : G 37 [] [.inr (.inl b0)] M 0 0 := by
  unfold fn11_trees_b37 at hres
  obtain ⟨rfl, rfl⟩ := am_fin hres
  exact am_lret cx dX11_trees_37
set_option maxRecDepth 20000 in
theorem sn11_trees_b0 {l : Launch} {G : am_G} {v : Int64} {M' : am_Mem}  (cx : am_Ctx l rm11_trees yX11_trees cX11_trees 3 (some .long) (some (.inr (.inl v))) M' 0 0 G)  {r0 : Nat} {x1 : Int32} {M : am_Mem} (hres : fn11_trees_b0  r0 x1 M = some (v, M')) : G 0 [(0, .inr (.inr (.inl r0))), (1, .inl x1)] [] M 0 0 := by
  unfold fn11_trees_b0 at hres
  refine am_aload_n cx 0 dX11_trees_0 rfl ?_
  obtain ⟨q1, hres⟩ := am_ck_some hres
  refine am_getR cx dX11_trees_1 flX11_66 (am_ke q1) ?_
  refine am_iload_n cx 1 dX11_trees_4 rfl ?_
  obtain ⟨q2, hres⟩ := am_ck_some hres
  obtain ⟨v3, M4, q5, hres⟩ := am_bd_some hres
  refine am_callV1 cx [.inl x1] dX11_trees_5 cvX11_115 (mt9_find q5) (am_ke q2) ⟨rfl, rfl, Nat.le_of_ble_eq_true rfl, Nat.le_of_ble_eq_true rfl⟩ rfl (Nat.le_of_ble_eq_true rfl) ⟨Nat.le_of_ble_eq_true rfl, Nat.le_of_ble_eq_true rfl⟩ ?_
  refine am_astore_n cx (lv' := [(0, .inr (.inr (.inl r0))), (1, .inl x1), (2, .inr (.inr (.inl v3)))]) dX11_trees_8 (Nat.le_of_ble_eq_true rfl) rfl ?_
  refine am_aload_n cx 2 dX11_trees_9 rfl ?_
  refine am_ifnonnull cx (tgt := 17) dX11_trees_10 (by decide) (fun h => ?_) (fun h => ?_)
  · have hres := am_ifn h hres
    refine am_aload_n cx 2 dX11_trees_17 rfl ?_
    obtain ⟨q6, hres⟩ := am_ck_some hres
    refine am_getR cx dX11_trees_18 flX11_191 (am_ke q6) ?_
    refine am_ifnonnull cx (tgt := 30) dX11_trees_21 (by decide) (fun h => ?_) (fun h => ?_)
    · have hres := am_ifn h hres
      refine am_aload_n cx 2 dX11_trees_30 rfl ?_
      refine am_getR cx dX11_trees_31 flX11_191 (am_ke q6) ?_
      obtain ⟨q7, hres⟩ := am_ck_some hres
      refine am_getJ cx dX11_trees_34 flX11_197 (am_ke q7) ?_
      refine am_sub cx [] rfl ?_
      exact sn11_trees_b37 cx  hres
    · have hres := am_ifp h hres
      refine am_ldc2 cx dX11_trees_24 aw_3_237 ?_
      refine am_goto cx (tgt := 37) dX11_trees_27 (by decide) ?_
      refine am_sub cx [] rfl ?_
      exact sn11_trees_b37 cx  hres
  · have hres := am_ifp h hres
    refine am_ldc2 cx dX11_trees_13 aw_3_236 ?_
    obtain ⟨rfl, rfl⟩ := am_fin hres
    exact am_lret cx dX11_trees_16
set_option maxRecDepth 20000 in
theorem mt11_trees {l : Launch} {v : Int64} {M M' : am_Mem} {r0 : Nat} {x1 : Int32} (h : fn11_trees M r0 x1 = some (v, M')) : am_Met l yX11_trees cX11_trees 3 (some .long) rm11_trees 0 0 [.inr (.inr (.inl r0)), .inl x1] M (some (.inr (.inl v))) M' := am_mk (by decide) (Nat.le_of_ble_eq_true rfl) (fun G cx => (sn11_trees_b0 cx h))
-- SquareCuts.layings
def fn11_layings_b34  (a0 : Int32) (M : am_Mem) : Option (Int32 × am_Mem) :=
  some (a0, M)
def fn11_layings_b0  (r0 : Nat) (x1 : Int32) (M : am_Mem) : Option (Int32 × am_Mem) :=
  am_ck (am_k M r0 11) (am_ck (am_k M (am_R M r0 8) 9) (am_bd (fn9_find M (am_R M r0 8) x1) (fun v3 M4 => if v3 = 0 then some ((-1 : Int32), M4) else am_ck (am_k M4 v3 10) (if (am_R M4 v3 3) = 0 then fn11_layings_b34  (-2 : Int32) M4 else am_ck (am_k M4 (am_R M4 v3 3) 3) (fn11_layings_b34  (am_I M4 (am_R M4 v3 3) 7) M4)))))
def fn11_layings (M : am_Mem) (r0 : Nat) (x1 : Int32) : Option (Int32 × am_Mem) := fn11_layings_b0  r0 x1 M
def rm11_layings : Room := { frames := 1, cells := 0, slots := 0, locals := 21 }
set_option maxRecDepth 20000 in
theorem sn11_layings_b34 {l : Launch} {G : am_G} {v : Int32} {M' : am_Mem}  (cx : am_Ctx l rm11_layings yX11_layings cX11_layings 3 (some .int) (some (.inl v)) M' 0 0 G)  {a0 : Int32} {M : am_Mem} (hres : fn11_layings_b34  a0 M = some (v, M')) : G 34 [] [.inl a0] M 0 0 := by
  unfold fn11_layings_b34 at hres
  obtain ⟨rfl, rfl⟩ := am_fin hres
  exact am_iret cx dX11_layings_34
set_option maxRecDepth 20000 in
theorem sn11_layings_b0 {l : Launch} {G : am_G} {v : Int32} {M' : am_Mem}  (cx : am_Ctx l rm11_layings yX11_layings cX11_layings 3 (some .int) (some (.inl v)) M' 0 0 G)  {r0 : Nat} {x1 : Int32} {M : am_Mem} (hres : fn11_layings_b0  r0 x1 M = some (v, M')) : G 0 [(0, .inr (.inr (.inl r0))), (1, .inl x1)] [] M 0 0 := by
  unfold fn11_layings_b0 at hres
  refine am_aload_n cx 0 dX11_layings_0 rfl ?_
  obtain ⟨q1, hres⟩ := am_ck_some hres
  refine am_getR cx dX11_layings_1 flX11_66 (am_ke q1) ?_
  refine am_iload_n cx 1 dX11_layings_4 rfl ?_
  obtain ⟨q2, hres⟩ := am_ck_some hres
  obtain ⟨v3, M4, q5, hres⟩ := am_bd_some hres
  refine am_callV1 cx [.inl x1] dX11_layings_5 cvX11_115 (mt9_find q5) (am_ke q2) ⟨rfl, rfl, Nat.le_of_ble_eq_true rfl, Nat.le_of_ble_eq_true rfl⟩ rfl (Nat.le_of_ble_eq_true rfl) ⟨Nat.le_of_ble_eq_true rfl, Nat.le_of_ble_eq_true rfl⟩ ?_
  refine am_astore_n cx (lv' := [(0, .inr (.inr (.inl r0))), (1, .inl x1), (2, .inr (.inr (.inl v3)))]) dX11_layings_8 (Nat.le_of_ble_eq_true rfl) rfl ?_
  refine am_aload_n cx 2 dX11_layings_9 rfl ?_
  refine am_ifnonnull cx (tgt := 15) dX11_layings_10 (by decide) (fun h => ?_) (fun h => ?_)
  · have hres := am_ifn h hres
    refine am_aload_n cx 2 dX11_layings_15 rfl ?_
    obtain ⟨q6, hres⟩ := am_ck_some hres
    refine am_getR cx dX11_layings_16 flX11_191 (am_ke q6) ?_
    refine am_ifnonnull cx (tgt := 27) dX11_layings_19 (by decide) (fun h => ?_) (fun h => ?_)
    · have hres := am_ifn h hres
      refine am_aload_n cx 2 dX11_layings_27 rfl ?_
      refine am_getR cx dX11_layings_28 flX11_191 (am_ke q6) ?_
      obtain ⟨q7, hres⟩ := am_ck_some hres
      refine am_getI cx dX11_layings_31 flX11_220 (am_ke q7) ?_
      refine am_sub cx [] rfl ?_
      exact sn11_layings_b34 cx  hres
    · have hres := am_ifp h hres
      refine am_bipush cx (v := (-2 : Int32)) dX11_layings_22 (by decide) ?_
      refine am_goto cx (tgt := 34) dX11_layings_24 (by decide) ?_
      refine am_sub cx [] rfl ?_
      exact sn11_layings_b34 cx  hres
  · have hres := am_ifp h hres
    refine am_iconst cx (v := (-1 : Int32)) dX11_layings_13 (by decide) ?_
    obtain ⟨rfl, rfl⟩ := am_fin hres
    exact am_iret cx dX11_layings_14
set_option maxRecDepth 20000 in
theorem mt11_layings {l : Launch} {v : Int32} {M M' : am_Mem} {r0 : Nat} {x1 : Int32} (h : fn11_layings M r0 x1 = some (v, M')) : am_Met l yX11_layings cX11_layings 3 (some .int) rm11_layings 0 0 [.inr (.inr (.inl r0)), .inl x1] M (some (.inl v)) M' := am_mk (by decide) (Nat.le_of_ble_eq_true rfl) (fun G cx => (sn11_layings_b0 cx h))
-- SquareCuts.undo
def fn11_undo_b0  (r0 : Nat) (M : am_Mem) : Option (Int32 × am_Mem) :=
  am_ck (am_k M r0 11) (if (am_I M r0 11) = 0 then some ((-1 : Int32), M) else am_ck (am_k M (am_R M r0 8) 9) (am_bd (fn9_dropLast M (am_R M r0 8)) (fun v3 M4 => am_ck (am_k M4 r0 11) (some ((am_I (am_wI M4 r0 11 ((am_I M4 r0 11) - (1 : Int32))) r0 11), (am_wI M4 r0 11 ((am_I M4 r0 11) - (1 : Int32))))))))
def fn11_undo (M : am_Mem) (r0 : Nat) : Option (Int32 × am_Mem) := fn11_undo_b0  r0 M
def rm11_undo : Room := { frames := 1, cells := 0, slots := 0, locals := 20 }
set_option maxRecDepth 20000 in
theorem sn11_undo_b0 {l : Launch} {G : am_G} {v : Int32} {M' : am_Mem}  (cx : am_Ctx l rm11_undo yX11_undo cX11_undo 1 (some .int) (some (.inl v)) M' 0 0 G)  {r0 : Nat} {M : am_Mem} (hres : fn11_undo_b0  r0 M = some (v, M')) : G 0 [(0, .inr (.inr (.inl r0)))] [] M 0 0 := by
  unfold fn11_undo_b0 at hres
  refine am_aload_n cx 0 dX11_undo_0 rfl ?_
  obtain ⟨q1, hres⟩ := am_ck_some hres
  refine am_getI cx dX11_undo_1 flX11_91 (am_ke q1) ?_
  refine am_if_ne cx (tgt := 9) dX11_undo_4 (by decide) (fun h => ?_) (fun h => ?_)
  · have hres := am_ifn h hres
    refine am_aload_n cx 0 dX11_undo_9 rfl ?_
    refine am_getR cx dX11_undo_10 flX11_66 (am_ke q1) ?_
    obtain ⟨q2, hres⟩ := am_ck_some hres
    obtain ⟨v3, M4, q5, hres⟩ := am_bd_some hres
    refine am_callV0 cx [] dX11_undo_13 cvX11_288 (mt9_dropLast q5) (am_ke q2) ⟨rfl, rfl, Nat.le_of_ble_eq_true rfl, Nat.le_of_ble_eq_true rfl⟩ rfl (Nat.le_of_ble_eq_true rfl) ⟨Nat.le_of_ble_eq_true rfl, Nat.le_of_ble_eq_true rfl⟩ ?_
    refine am_aload_n cx 0 dX11_undo_16 rfl ?_
    refine am_dup cx dX11_undo_17 rfl ?_
    obtain ⟨q6, hres⟩ := am_ck_some hres
    refine am_getI cx dX11_undo_18 flX11_91 (am_ke q6) ?_
    refine am_iconst cx (v := (1 : Int32)) dX11_undo_21 (by decide) ?_
    refine am_isub cx dX11_undo_22 ?_
    refine am_putI cx dX11_undo_23 fpX11_91 (fun h => by cases h) (am_ke q6) ?_
    refine am_aload_n cx 0 dX11_undo_26 rfl ?_
    refine am_getI cx dX11_undo_27 flX11_91 (am_ke q6) ?_
    obtain ⟨rfl, rfl⟩ := am_fin hres
    exact am_iret cx dX11_undo_30
  · have hres := am_ifp h hres
    refine am_iconst cx (v := (-1 : Int32)) dX11_undo_7 (by decide) ?_
    obtain ⟨rfl, rfl⟩ := am_fin hres
    exact am_iret cx dX11_undo_8
set_option maxRecDepth 20000 in
theorem mt11_undo {l : Launch} {v : Int32} {M M' : am_Mem} {r0 : Nat} (h : fn11_undo M r0 = some (v, M')) : am_Met l yX11_undo cX11_undo 1 (some .int) rm11_undo 0 0 [.inr (.inr (.inl r0))] M (some (.inl v)) M' := am_mk (by decide) (Nat.le_of_ble_eq_true rfl) (fun G cx => (sn11_undo_b0 cx h))
-- SquareCuts.keep
def fn11_keep_b40 (N : Nat)   (M : am_Mem) : Option (Int32 × am_Mem) :=
  some ((0 : Int32), M)
def fn11_keep_b70 (N : Nat)   (M : am_Mem) : Option (Int32 × am_Mem) :=
  some ((1 : Int32), M)
def fn11_keep_b42 (N : Nat)  (r0 : Nat) (x2 : Int32) (r3 : Nat) (M : am_Mem) : Option (Int32 × am_Mem) :=
  if x2 = 0 then am_ck (am_k M r0 11) (am_ck (am_k M r3 9) (am_bd (fn9_copyFrom N M r3 (am_R M r0 8)) (fun v3 M4 => fn11_keep_b70 N   M4))) else am_ck (am_k M r0 11) (am_ck (am_k M (am_R M r0 8) 9) (am_bd (fn9_copyFrom N M (am_R M r0 8) r3) (fun v8 M9 => am_ck (am_k M9 r0 11) (fn11_keep_b70 N   (am_wI M9 r0 11 (0 : Int32))))))
def fn11_keep_b24 (N : Nat)  (c0 : Nat) (r0 : Nat) (x2 : Int32) (M : am_Mem) : Option (Int32 × am_Mem) :=
  if c0 = 0 then fn11_keep_b40 N   M else if x2 = 0 then fn11_keep_b42 N  r0 x2 c0 M else am_ck (am_k M c0 9) (if (am_I M c0 2) = 0 then fn11_keep_b40 N   M else fn11_keep_b42 N  r0 x2 c0 M)
def fn11_keep_b0 (N : Nat)  (r0 : Nat) (x1 : Int32) (x2 : Int32) (M : am_Mem) : Option (Int32 × am_Mem) :=
  if x1 = 0 then am_ck (am_k M r0 11) (fn11_keep_b24 N  (am_R M r0 9) r0 x2 M) else if x1 = (1 : Int32) then am_ck (am_k M r0 11) (fn11_keep_b24 N  (am_R M r0 10) r0 x2 M) else fn11_keep_b24 N  0 r0 x2 M
def fn11_keep (N : Nat) (M : am_Mem) (r0 : Nat) (x1 : Int32) (x2 : Int32) : Option (Int32 × am_Mem) := fn11_keep_b0 N r0 x1 x2 M
def rm11_keep : Room := { frames := 1, cells := 0, slots := 0, locals := 22 }
set_option maxRecDepth 20000 in
theorem sn11_keep_b40 {l : Launch} {G : am_G} {v : Int32} {M' : am_Mem} {N : Nat}  (cx : am_Ctx l rm11_keep yX11_keep cX11_keep 4 (some .boolean) (some (.inl v)) M' 0 0 G)   {M : am_Mem} (hres : fn11_keep_b40 N   M = some (v, M')) : G 40 [] [] M 0 0 := by
  unfold fn11_keep_b40 at hres
  refine am_iconst cx (v := (0 : Int32)) dX11_keep_40 (by decide) ?_
  obtain ⟨rfl, rfl⟩ := am_fin hres
  exact am_zret cx rfl dX11_keep_41
set_option maxRecDepth 20000 in
theorem sn11_keep_b70 {l : Launch} {G : am_G} {v : Int32} {M' : am_Mem} {N : Nat}  (cx : am_Ctx l rm11_keep yX11_keep cX11_keep 4 (some .boolean) (some (.inl v)) M' 0 0 G)   {M : am_Mem} (hres : fn11_keep_b70 N   M = some (v, M')) : G 70 [] [] M 0 0 := by
  unfold fn11_keep_b70 at hres
  refine am_iconst cx (v := (1 : Int32)) dX11_keep_70 (by decide) ?_
  obtain ⟨rfl, rfl⟩ := am_fin hres
  exact am_zret cx rfl dX11_keep_71
set_option maxRecDepth 20000 in
theorem sn11_keep_b42 {l : Launch} {G : am_G} {v : Int32} {M' : am_Mem} {N : Nat}  (cx : am_Ctx l rm11_keep yX11_keep cX11_keep 4 (some .boolean) (some (.inl v)) M' 0 0 G)  {r0 : Nat} {x2 : Int32} {r3 : Nat} {M : am_Mem} (hres : fn11_keep_b42 N  r0 x2 r3 M = some (v, M')) : G 42 [(0, .inr (.inr (.inl r0))), (2, .inl x2), (3, .inr (.inr (.inl r3)))] [] M 0 0 := by
  unfold fn11_keep_b42 at hres
  refine am_iload_n cx 1 dX11_keep_42 rfl ?_
  refine am_if_eq cx (tgt := 62) dX11_keep_43 (by decide) (fun h => ?_) (fun h => ?_)
  · have hres := am_ifp h hres
    refine am_aload_n cx 2 dX11_keep_62 rfl ?_
    refine am_aload_n cx 0 dX11_keep_63 rfl ?_
    obtain ⟨q1, hres⟩ := am_ck_some hres
    refine am_getR cx dX11_keep_64 flX11_66 (am_ke q1) ?_
    obtain ⟨q2, hres⟩ := am_ck_some hres
    obtain ⟨v3, M4, q5, hres⟩ := am_bd_some hres
    refine am_callV0 cx [.inr (.inr (.inl (am_R M r0 8)))] dX11_keep_67 cvX11_294 (mt9_copyFrom q5) (am_ke q2) ⟨rfl, rfl, Nat.le_of_ble_eq_true rfl, Nat.le_of_ble_eq_true rfl⟩ rfl (Nat.le_of_ble_eq_true rfl) ⟨Nat.le_of_ble_eq_true rfl, Nat.le_of_ble_eq_true rfl⟩ ?_
    refine am_sub cx [] rfl ?_
    exact sn11_keep_b70 cx  hres
  · have hres := am_ifn h hres
    refine am_aload_n cx 0 dX11_keep_46 rfl ?_
    obtain ⟨q6, hres⟩ := am_ck_some hres
    refine am_getR cx dX11_keep_47 flX11_66 (am_ke q6) ?_
    refine am_aload_n cx 2 dX11_keep_50 rfl ?_
    obtain ⟨q7, hres⟩ := am_ck_some hres
    obtain ⟨v8, M9, q10, hres⟩ := am_bd_some hres
    refine am_callV0 cx [.inr (.inr (.inl r3))] dX11_keep_51 cvX11_294 (mt9_copyFrom q10) (am_ke q7) ⟨rfl, rfl, Nat.le_of_ble_eq_true rfl, Nat.le_of_ble_eq_true rfl⟩ rfl (Nat.le_of_ble_eq_true rfl) ⟨Nat.le_of_ble_eq_true rfl, Nat.le_of_ble_eq_true rfl⟩ ?_
    refine am_aload_n cx 0 dX11_keep_54 rfl ?_
    refine am_iconst cx (v := (0 : Int32)) dX11_keep_55 (by decide) ?_
    obtain ⟨q11, hres⟩ := am_ck_some hres
    refine am_putI cx dX11_keep_56 fpX11_91 (fun h => by cases h) (am_ke q11) ?_
    refine am_goto cx (tgt := 70) dX11_keep_59 (by decide) ?_
    refine am_sub cx [] rfl ?_
    exact sn11_keep_b70 cx  hres
set_option maxRecDepth 20000 in
theorem sn11_keep_b24 {l : Launch} {G : am_G} {v : Int32} {M' : am_Mem} {N : Nat}  (cx : am_Ctx l rm11_keep yX11_keep cX11_keep 4 (some .boolean) (some (.inl v)) M' 0 0 G)  {c0 : Nat} {r0 : Nat} {x2 : Int32} {M : am_Mem} (hres : fn11_keep_b24 N  c0 r0 x2 M = some (v, M')) : G 24 [(0, .inr (.inr (.inl r0))), (2, .inl x2)] [.inr (.inr (.inl c0))] M 0 0 := by
  unfold fn11_keep_b24 at hres
  refine am_astore_n cx (lv' := [(0, .inr (.inr (.inl r0))), (2, .inl x2), (3, .inr (.inr (.inl c0)))]) dX11_keep_24 (Nat.le_of_ble_eq_true rfl) rfl ?_
  refine am_aload_n cx 2 dX11_keep_25 rfl ?_
  refine am_ifnull cx (tgt := 40) dX11_keep_26 (by decide) (fun h => ?_) (fun h => ?_)
  · have hres := am_ifp h hres
    refine am_sub cx [] rfl ?_
    exact sn11_keep_b40 cx  hres
  · have hres := am_ifn h hres
    refine am_iload_n cx 1 dX11_keep_29 rfl ?_
    refine am_if_eq cx (tgt := 42) dX11_keep_30 (by decide) (fun h => ?_) (fun h => ?_)
    · have hres := am_ifp h hres
      exact sn11_keep_b42 cx  hres
    · have hres := am_ifn h hres
      refine am_aload_n cx 2 dX11_keep_33 rfl ?_
      obtain ⟨q1, hres⟩ := am_ck_some hres
      refine am_getI cx dX11_keep_34 flX11_291 (am_ke q1) ?_
      refine am_if_ne cx (tgt := 42) dX11_keep_37 (by decide) (fun h => ?_) (fun h => ?_)
      · have hres := am_ifn h hres
        exact sn11_keep_b42 cx  hres
      · have hres := am_ifp h hres
        refine am_sub cx [] rfl ?_
        exact sn11_keep_b40 cx  hres
set_option maxRecDepth 20000 in
theorem sn11_keep_b0 {l : Launch} {G : am_G} {v : Int32} {M' : am_Mem} {N : Nat}  (cx : am_Ctx l rm11_keep yX11_keep cX11_keep 4 (some .boolean) (some (.inl v)) M' 0 0 G)  {r0 : Nat} {x1 : Int32} {x2 : Int32} {M : am_Mem} (hres : fn11_keep_b0 N  r0 x1 x2 M = some (v, M')) : G 0 [(0, .inr (.inr (.inl r0))), (1, .inl x1), (2, .inl x2)] [] M 0 0 := by
  unfold fn11_keep_b0 at hres
  refine am_iload_n cx 1 dX11_keep_0 rfl ?_
  refine am_if_ne cx (tgt := 11) dX11_keep_1 (by decide) (fun h => ?_) (fun h => ?_)
  · have hres := am_ifn h hres
    refine am_iload_n cx 1 dX11_keep_11 rfl ?_
    refine am_iconst cx (v := (1 : Int32)) dX11_keep_12 (by decide) ?_
    refine am_icmp_ne cx (tgt := 23) dX11_keep_13 (by decide) (fun h => ?_) (fun h => ?_)
    · have hres := am_ifn h hres
      refine am_null cx dX11_keep_23 ?_
      refine am_sub cx [0, 2] rfl ?_
      exact sn11_keep_b24 cx  hres
    · have hres := am_ifp h hres
      refine am_aload_n cx 0 dX11_keep_16 rfl ?_
      obtain ⟨q1, hres⟩ := am_ck_some hres
      refine am_getR cx dX11_keep_17 flX11_73 (am_ke q1) ?_
      refine am_goto cx (tgt := 24) dX11_keep_20 (by decide) ?_
      refine am_sub cx [0, 2] rfl ?_
      exact sn11_keep_b24 cx  hres
  · have hres := am_ifp h hres
    refine am_aload_n cx 0 dX11_keep_4 rfl ?_
    obtain ⟨q2, hres⟩ := am_ck_some hres
    refine am_getR cx dX11_keep_5 flX11_70 (am_ke q2) ?_
    refine am_goto cx (tgt := 24) dX11_keep_8 (by decide) ?_
    refine am_sub cx [0, 2] rfl ?_
    exact sn11_keep_b24 cx  hres
set_option maxRecDepth 20000 in
theorem mt11_keep {l : Launch} {v : Int32} {M M' : am_Mem} {N : Nat} {r0 : Nat} {x1 : Int32} {x2 : Int32} (h : fn11_keep N M r0 x1 x2 = some (v, M')) : am_Met l yX11_keep cX11_keep 4 (some .boolean) rm11_keep 0 0 [.inr (.inr (.inl r0)), .inl x1, .inl x2] M (some (.inl v)) M' := am_mk (by decide) (Nat.le_of_ble_eq_true rfl) (fun G cx => (sn11_keep_b0 cx h))
