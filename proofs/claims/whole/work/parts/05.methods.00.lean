-- SquareCuts$Draft.<init>
def fn0_init_b28   (M : am_Mem) : Option (Unit × am_Mem) :=
  some ((), M)
def fn0_init_b20  (r0 : Nat) (M : am_Mem) : Option (Unit × am_Mem) :=
  am_ck (am_k (am_new M 14 (40 : Int32).toNatClampNeg) r0 0) (fn0_init_b28   (am_wR (am_new M 14 (40 : Int32).toNatClampNeg) r0 2 (am_n M + 1)))
def fn0_init_b12  (r0 : Nat) (M : am_Mem) : Option (Unit × am_Mem) :=
  am_ck (am_k (am_new M 14 (40 : Int32).toNatClampNeg) r0 0) (fn0_init_b20  r0 (am_wR (am_new M 14 (40 : Int32).toNatClampNeg) r0 1 (am_n M + 1)))
def fn0_init_b0  (r0 : Nat) (M : am_Mem) : Option (Unit × am_Mem) :=
  am_ck (am_k M r0 0) (am_ck (am_k (am_new M 14 (40 : Int32).toNatClampNeg) r0 0) (fn0_init_b12  r0 (am_wR (am_new M 14 (40 : Int32).toNatClampNeg) r0 0 (am_n M + 1))))
def fn0_init (M : am_Mem) (r0 : Nat) : Option (Unit × am_Mem) := fn0_init_b0  r0 M
def rm0_init : Room := { frames := 1, cells := 3, slots := 120, locals := 20 }
set_option maxRecDepth 20000 in
theorem sn0_init_b28 {l : Launch} {G : am_G} {M' : am_Mem}  (cx : am_Ctx l rm0_init yX0_init cX0_init 1 none none M' 3 120 G)   {M : am_Mem} (hres : fn0_init_b28   M = some ((), M')) : G 28 [] [] M 3 120 := by
  unfold fn0_init_b28 at hres
  obtain ⟨-, rfl⟩ := am_fin hres
  exact am_vret cx dX0_init_28
set_option maxRecDepth 20000 in
theorem sn0_init_b20 {l : Launch} {G : am_G} {M' : am_Mem}  (cx : am_Ctx l rm0_init yX0_init cX0_init 1 none none M' 3 120 G)  {r0 : Nat} {M : am_Mem} (hres : fn0_init_b20  r0 M = some ((), M')) : G 20 [(0, .inr (.inr (.inl r0)))] [] M 2 80 := by
  unfold fn0_init_b20 at hres
  refine am_aload_n cx 0 dX0_init_20 rfl ?_
  refine am_bipush cx (v := (40 : Int32)) dX0_init_21 (by decide) ?_
  refine am_newI cx 40 dX0_init_23 aw_1_90 (by decide) (Nat.le_of_ble_eq_true rfl) (Nat.le_of_ble_eq_true rfl) (Nat.le_of_ble_eq_true rfl) ?_
  obtain ⟨q1, hres⟩ := am_ck_some hres
  refine am_putR cx dX0_init_25 fpX0_18 (fun _ => rfl) (Or.inr ⟨_, rfl⟩) (am_ke q1) ?_
  refine am_sub cx [] rfl ?_
  exact sn0_init_b28 cx  hres
set_option maxRecDepth 20000 in
theorem sn0_init_b12 {l : Launch} {G : am_G} {M' : am_Mem}  (cx : am_Ctx l rm0_init yX0_init cX0_init 1 none none M' 3 120 G)  {r0 : Nat} {M : am_Mem} (hres : fn0_init_b12  r0 M = some ((), M')) : G 12 [(0, .inr (.inr (.inl r0)))] [] M 1 40 := by
  unfold fn0_init_b12 at hres
  refine am_aload_n cx 0 dX0_init_12 rfl ?_
  refine am_bipush cx (v := (40 : Int32)) dX0_init_13 (by decide) ?_
  refine am_newI cx 40 dX0_init_15 aw_1_90 (by decide) (Nat.le_of_ble_eq_true rfl) (Nat.le_of_ble_eq_true rfl) (Nat.le_of_ble_eq_true rfl) ?_
  obtain ⟨q1, hres⟩ := am_ck_some hres
  refine am_putR cx dX0_init_17 fpX0_15 (fun _ => rfl) (Or.inr ⟨_, rfl⟩) (am_ke q1) ?_
  exact sn0_init_b20 cx  hres
set_option maxRecDepth 20000 in
theorem sn0_init_b0 {l : Launch} {G : am_G} {M' : am_Mem}  (cx : am_Ctx l rm0_init yX0_init cX0_init 1 none none M' 3 120 G)  {r0 : Nat} {M : am_Mem} (hres : fn0_init_b0  r0 M = some ((), M')) : G 0 [(0, .inr (.inr (.inl r0)))] [] M 0 0 := by
  unfold fn0_init_b0 at hres
  refine am_aload_n cx 0 dX0_init_0 rfl ?_
  obtain ⟨q1, hres⟩ := am_ck_some hres
  refine am_objInit cx dX0_init_1 aw_1_177 aw_1_31 aw_1_32 (by rw [show am_K _ _ = 0 from (am_ke q1)]; decide) (Nat.le_of_ble_eq_true rfl) (Nat.le_of_ble_eq_true rfl) ?_
  refine am_aload_n cx 0 dX0_init_4 rfl ?_
  refine am_bipush cx (v := (40 : Int32)) dX0_init_5 (by decide) ?_
  refine am_newI cx 40 dX0_init_7 aw_1_90 (by decide) (Nat.le_of_ble_eq_true rfl) (Nat.le_of_ble_eq_true rfl) (Nat.le_of_ble_eq_true rfl) ?_
  obtain ⟨q2, hres⟩ := am_ck_some hres
  refine am_putR cx dX0_init_9 fpX0_9 (fun _ => rfl) (Or.inr ⟨_, rfl⟩) (am_ke q2) ?_
  exact sn0_init_b12 cx  hres
set_option maxRecDepth 20000 in
theorem mt0_init {l : Launch} {M M' : am_Mem} {r0 : Nat} (h : fn0_init M r0 = some ((), M')) : am_Met l yX0_init cX0_init 1 none rm0_init 3 120 [.inr (.inr (.inl r0))] M none M' := am_mk (by decide) (Nat.le_of_ble_eq_true rfl) (fun G cx => (sn0_init_b0 cx h))
-- SquareCuts$Draft.begin
def fn0_begin_b0  (r0 : Nat) (x1 : Int32) (x2 : Int32) (M : am_Mem) : Option (Unit × am_Mem) :=
  am_ck (am_k M r0 0) (some ((), (am_wI (am_wI (am_wI M r0 4 x1) r0 5 x2) r0 3 (0 : Int32))))
def fn0_begin (M : am_Mem) (r0 : Nat) (x1 : Int32) (x2 : Int32) : Option (Unit × am_Mem) := fn0_begin_b0  r0 x1 x2 M
def rm0_begin : Room := { frames := 0, cells := 0, slots := 0, locals := 0 }
set_option maxRecDepth 20000 in
theorem sn0_begin_b0 {l : Launch} {G : am_G} {M' : am_Mem}  (cx : am_Ctx l rm0_begin yX0_begin cX0_begin 3 none none M' 0 0 G)  {r0 : Nat} {x1 : Int32} {x2 : Int32} {M : am_Mem} (hres : fn0_begin_b0  r0 x1 x2 M = some ((), M')) : G 0 [(0, .inr (.inr (.inl r0))), (1, .inl x1), (2, .inl x2)] [] M 0 0 := by
  unfold fn0_begin_b0 at hres
  refine am_aload_n cx 0 dX0_begin_0 rfl ?_
  refine am_iload_n cx 1 dX0_begin_1 rfl ?_
  obtain ⟨q1, hres⟩ := am_ck_some hres
  refine am_putI cx dX0_begin_2 fpX0_21 (fun h => by cases h) (am_ke q1) ?_
  refine am_aload_n cx 0 dX0_begin_5 rfl ?_
  refine am_iload_n cx 2 dX0_begin_6 rfl ?_
  refine am_putI cx dX0_begin_7 fpX0_25 (fun h => by cases h) (am_ke q1) ?_
  refine am_aload_n cx 0 dX0_begin_10 rfl ?_
  refine am_iconst cx (v := (0 : Int32)) dX0_begin_11 (by decide) ?_
  refine am_putI cx dX0_begin_12 fpX0_28 (fun h => by cases h) (am_ke q1) ?_
  obtain ⟨-, rfl⟩ := am_fin hres
  exact am_vret cx dX0_begin_15
set_option maxRecDepth 20000 in
theorem mt0_begin {l : Launch} {M M' : am_Mem} {r0 : Nat} {x1 : Int32} {x2 : Int32} (h : fn0_begin M r0 x1 x2 = some ((), M')) : am_Met l yX0_begin cX0_begin 3 none rm0_begin 0 0 [.inr (.inr (.inl r0)), .inl x1, .inl x2] M none M' := am_mk (by decide) (Nat.le_of_ble_eq_true rfl) (fun G cx => (sn0_begin_b0 cx h))
-- SquareCuts$Draft.add
def fn0_add_b49   (M : am_Mem) : Option (Unit × am_Mem) :=
  some ((), M)
def fn0_add_b0  (r0 : Nat) (x1 : Int32) (x2 : Int32) (x3 : Int32) (M : am_Mem) : Option (Unit × am_Mem) :=
  am_ck (am_k M r0 0) (if (40 : Int32) ≤ (am_I M r0 3) then fn0_add_b49   M else am_ck (am_k M (am_R M r0 0) 14) (am_ck (am_in (am_I M r0 3) (am_L M (am_R M r0 0))) (am_ck (am_k M (am_R M r0 1) 14) (am_ck (am_in (am_I (am_wI M (am_R M r0 0) (am_I M r0 3).toNatClampNeg x1) r0 3) (am_L M (am_R M r0 1))) (am_ck (am_k M (am_R M r0 2) 14) (am_ck (am_in (am_I (am_wI (am_wI M (am_R M r0 0) (am_I M r0 3).toNatClampNeg x1) (am_R M r0 1) (am_I (am_wI M (am_R M r0 0) (am_I M r0 3).toNatClampNeg x1) r0 3).toNatClampNeg x2) r0 3) (am_L M (am_R M r0 2))) (fn0_add_b49   (am_wI (am_wI (am_wI (am_wI M (am_R M r0 0) (am_I M r0 3).toNatClampNeg x1) (am_R M r0 1) (am_I (am_wI M (am_R M r0 0) (am_I M r0 3).toNatClampNeg x1) r0 3).toNatClampNeg x2) (am_R M r0 2) (am_I (am_wI (am_wI M (am_R M r0 0) (am_I M r0 3).toNatClampNeg x1) (am_R M r0 1) (am_I (am_wI M (am_R M r0 0) (am_I M r0 3).toNatClampNeg x1) r0 3).toNatClampNeg x2) r0 3).toNatClampNeg x3) r0 3 ((am_I (am_wI (am_wI (am_wI M (am_R M r0 0) (am_I M r0 3).toNatClampNeg x1) (am_R M r0 1) (am_I (am_wI M (am_R M r0 0) (am_I M r0 3).toNatClampNeg x1) r0 3).toNatClampNeg x2) (am_R M r0 2) (am_I (am_wI (am_wI M (am_R M r0 0) (am_I M r0 3).toNatClampNeg x1) (am_R M r0 1) (am_I (am_wI M (am_R M r0 0) (am_I M r0 3).toNatClampNeg x1) r0 3).toNatClampNeg x2) r0 3).toNatClampNeg x3) r0 3) + (1 : Int32))))))))))
def fn0_add (M : am_Mem) (r0 : Nat) (x1 : Int32) (x2 : Int32) (x3 : Int32) : Option (Unit × am_Mem) := fn0_add_b0  r0 x1 x2 x3 M
def rm0_add : Room := { frames := 0, cells := 0, slots := 0, locals := 0 }
set_option maxRecDepth 20000 in
theorem sn0_add_b49 {l : Launch} {G : am_G} {M' : am_Mem}  (cx : am_Ctx l rm0_add yX0_add cX0_add 4 none none M' 0 0 G)   {M : am_Mem} (hres : fn0_add_b49   M = some ((), M')) : G 49 [] [] M 0 0 := by
  unfold fn0_add_b49 at hres
  obtain ⟨-, rfl⟩ := am_fin hres
  exact am_vret cx dX0_add_49
set_option maxRecDepth 20000 in
theorem sn0_add_b0 {l : Launch} {G : am_G} {M' : am_Mem}  (cx : am_Ctx l rm0_add yX0_add cX0_add 4 none none M' 0 0 G)  {r0 : Nat} {x1 : Int32} {x2 : Int32} {x3 : Int32} {M : am_Mem} (hres : fn0_add_b0  r0 x1 x2 x3 M = some ((), M')) : G 0 [(0, .inr (.inr (.inl r0))), (1, .inl x1), (2, .inl x2), (3, .inl x3)] [] M 0 0 := by
  unfold fn0_add_b0 at hres
  refine am_aload_n cx 0 dX0_add_0 rfl ?_
  obtain ⟨q1, hres⟩ := am_ck_some hres
  refine am_getI cx dX0_add_1 flX0_28 (am_ke q1) ?_
  refine am_bipush cx (v := (40 : Int32)) dX0_add_4 (by decide) ?_
  refine am_icmp_ge cx (tgt := 49) dX0_add_6 (by decide) (fun h => ?_) (fun h => ?_)
  · have hres := am_ifp h hres
    refine am_sub cx [] rfl ?_
    exact sn0_add_b49 cx  hres
  · have hres := am_ifn h hres
    refine am_aload_n cx 0 dX0_add_9 rfl ?_
    refine am_getR cx dX0_add_10 flX0_9 (am_ke q1) ?_
    refine am_aload_n cx 0 dX0_add_13 rfl ?_
    refine am_getI cx dX0_add_14 flX0_28 (am_ke q1) ?_
    refine am_iload_n cx 1 dX0_add_17 rfl ?_
    obtain ⟨q2, hres⟩ := am_ck_some hres
    obtain ⟨q3, hres⟩ := am_ck_some hres
    refine am_iast cx dX0_add_18 (am_ke q2) q3  ?_
    refine am_aload_n cx 0 dX0_add_19 rfl ?_
    refine am_getR cx dX0_add_20 flX0_15 (am_ke q1) ?_
    refine am_aload_n cx 0 dX0_add_23 rfl ?_
    refine am_getI cx dX0_add_24 flX0_28 (am_ke q1) ?_
    refine am_iload_n cx 2 dX0_add_27 rfl ?_
    obtain ⟨q4, hres⟩ := am_ck_some hres
    obtain ⟨q5, hres⟩ := am_ck_some hres
    refine am_iast cx dX0_add_28 (am_ke q4) q5  ?_
    refine am_aload_n cx 0 dX0_add_29 rfl ?_
    refine am_getR cx dX0_add_30 flX0_18 (am_ke q1) ?_
    refine am_aload_n cx 0 dX0_add_33 rfl ?_
    refine am_getI cx dX0_add_34 flX0_28 (am_ke q1) ?_
    refine am_iload_n cx 3 dX0_add_37 rfl ?_
    obtain ⟨q6, hres⟩ := am_ck_some hres
    obtain ⟨q7, hres⟩ := am_ck_some hres
    refine am_iast cx dX0_add_38 (am_ke q6) q7  ?_
    refine am_aload_n cx 0 dX0_add_39 rfl ?_
    refine am_dup cx dX0_add_40 rfl ?_
    refine am_getI cx dX0_add_41 flX0_28 (am_ke q1) ?_
    refine am_iconst cx (v := (1 : Int32)) dX0_add_44 (by decide) ?_
    refine am_iadd cx dX0_add_45 ?_
    refine am_putI cx dX0_add_46 fpX0_28 (fun h => by cases h) (am_ke q1) ?_
    refine am_sub cx [] rfl ?_
    exact sn0_add_b49 cx  hres
set_option maxRecDepth 20000 in
theorem mt0_add {l : Launch} {M M' : am_Mem} {r0 : Nat} {x1 : Int32} {x2 : Int32} {x3 : Int32} (h : fn0_add M r0 x1 x2 x3 = some ((), M')) : am_Met l yX0_add cX0_add 4 none rm0_add 0 0 [.inr (.inr (.inl r0)), .inl x1, .inl x2, .inl x3] M none M' := am_mk (by decide) (Nat.le_of_ble_eq_true rfl) (fun G cx => (sn0_add_b0 cx h))
-- SquareCuts$Draft.addTimes
def fn0_addTimes_b3B (N : Nat) (k3 : Nat → Nat → Int32 → Int32 → Int32 → Int32 → am_Mem → Option (Unit × am_Mem)) (r0 : Nat) (r1 : Nat) (x2 : Int32) (x3 : Int32) (x4 : Int32) (x5 : Int32) (M : am_Mem) : Option (Unit × am_Mem) :=
  am_ck (am_k M r1 10) (if (am_I M r1 4) ≤ x5 then some ((), M) else am_ck (am_k M (am_R M r1 7) 14) (am_ck (am_in x5 (am_L M (am_R M r1 7))) (am_ck (am_k M (am_R M r1 8) 14) (am_ck (am_in x5 (am_L M (am_R M r1 8))) (am_ck (am_k M (am_R M r1 9) 14) (am_ck (am_in x5 (am_L M (am_R M r1 9))) (am_ck (am_k M r0 0) (am_bd (fn0_add M r0 (x3 + ((am_I M (am_R M r1 7) x5.toNatClampNeg) * x2)) (x4 + ((am_I M (am_R M r1 8) x5.toNatClampNeg) * x2)) ((am_I M (am_R M r1 9) x5.toNatClampNeg) * x2)) (fun v9 M10 => k3 r0 r1 x2 x3 x4 (x5 + (1 : Int32)) M10)))))))))
def fn0_addTimes_b3 (N : Nat)  : Nat → Nat → Nat → Int32 → Int32 → Int32 → Int32 → am_Mem → Option (Unit × am_Mem)
  | 0 => fun _ _ _ _ _ _ _ => none
  | i + 1 => fn0_addTimes_b3B N (fn0_addTimes_b3 N  i)
def fn0_addTimes_b0 (N : Nat)  (r0 : Nat) (r1 : Nat) (x2 : Int32) (x3 : Int32) (x4 : Int32) (M : am_Mem) : Option (Unit × am_Mem) :=
  fn0_addTimes_b3 N  N r0 r1 x2 x3 x4 (0 : Int32) M
def fn0_addTimes (N : Nat) (M : am_Mem) (r0 : Nat) (r1 : Nat) (x2 : Int32) (x3 : Int32) (x4 : Int32) : Option (Unit × am_Mem) := fn0_addTimes_b0 N r0 r1 x2 x3 x4 M
def rm0_addTimes : Room := { frames := 1, cells := 0, slots := 0, locals := 23 }
set_option maxRecDepth 20000 in
theorem sn0_addTimes_b3B {l : Launch} {G : am_G} {M' : am_Mem} {N : Nat} {k3 : Nat → Nat → Int32 → Int32 → Int32 → Int32 → am_Mem → Option (Unit × am_Mem)} (cx : am_Ctx l rm0_addTimes yX0_addTimes cX0_addTimes 6 none none M' 0 0 G) (hk3 : ∀ (r0 : Nat) (r1 : Nat) (x2 : Int32) (x3 : Int32) (x4 : Int32) (x5 : Int32) (M : am_Mem), k3 r0 r1 x2 x3 x4 x5 M = some ((), M') → G 3 [(0, .inr (.inr (.inl r0))), (1, .inr (.inr (.inl r1))), (2, .inl x2), (3, .inl x3), (4, .inl x4), (5, .inl x5)] [] M 0 0) {r0 : Nat} {r1 : Nat} {x2 : Int32} {x3 : Int32} {x4 : Int32} {x5 : Int32} {M : am_Mem} (hres : fn0_addTimes_b3B N k3 r0 r1 x2 x3 x4 x5 M = some ((), M')) : G 3 [(0, .inr (.inr (.inl r0))), (1, .inr (.inr (.inl r1))), (2, .inl x2), (3, .inl x3), (4, .inl x4), (5, .inl x5)] [] M 0 0 := by
  unfold fn0_addTimes_b3B at hres
  refine am_iload cx 5 dX0_addTimes_3 rfl ?_
  refine am_aload_n cx 1 dX0_addTimes_5 rfl ?_
  obtain ⟨q1, hres⟩ := am_ck_some hres
  refine am_getI cx dX0_addTimes_6 flX0_31 (am_ke q1) ?_
  refine am_icmp_ge cx (tgt := 54) dX0_addTimes_9 (by decide) (fun h => ?_) (fun h => ?_)
  · have hres := am_ifp h hres
    obtain ⟨-, rfl⟩ := am_fin hres
    exact am_vret cx dX0_addTimes_54
  · have hres := am_ifn h hres
    refine am_aload_n cx 0 dX0_addTimes_12 rfl ?_
    refine am_iload_n cx 3 dX0_addTimes_13 rfl ?_
    refine am_aload_n cx 1 dX0_addTimes_14 rfl ?_
    refine am_getR cx dX0_addTimes_15 flX0_34 (am_ke q1) ?_
    refine am_iload cx 5 dX0_addTimes_18 rfl ?_
    obtain ⟨q2, hres⟩ := am_ck_some hres
    obtain ⟨q3, hres⟩ := am_ck_some hres
    refine am_iald cx dX0_addTimes_20 (am_ke q2) q3 ?_
    refine am_iload_n cx 2 dX0_addTimes_21 rfl ?_
    refine am_imul cx dX0_addTimes_22 ?_
    refine am_iadd cx dX0_addTimes_23 ?_
    refine am_iload cx 4 dX0_addTimes_24 rfl ?_
    refine am_aload_n cx 1 dX0_addTimes_26 rfl ?_
    refine am_getR cx dX0_addTimes_27 flX0_35 (am_ke q1) ?_
    refine am_iload cx 5 dX0_addTimes_30 rfl ?_
    obtain ⟨q4, hres⟩ := am_ck_some hres
    obtain ⟨q5, hres⟩ := am_ck_some hres
    refine am_iald cx dX0_addTimes_32 (am_ke q4) q5 ?_
    refine am_iload_n cx 2 dX0_addTimes_33 rfl ?_
    refine am_imul cx dX0_addTimes_34 ?_
    refine am_iadd cx dX0_addTimes_35 ?_
    refine am_aload_n cx 1 dX0_addTimes_36 rfl ?_
    refine am_getR cx dX0_addTimes_37 flX0_36 (am_ke q1) ?_
    refine am_iload cx 5 dX0_addTimes_40 rfl ?_
    obtain ⟨q6, hres⟩ := am_ck_some hres
    obtain ⟨q7, hres⟩ := am_ck_some hres
    refine am_iald cx dX0_addTimes_42 (am_ke q6) q7 ?_
    refine am_iload_n cx 2 dX0_addTimes_43 rfl ?_
    refine am_imul cx dX0_addTimes_44 ?_
    obtain ⟨q8, hres⟩ := am_ck_some hres
    obtain ⟨v9, M10, q11, hres⟩ := am_bd_some hres
    refine am_callV0 cx [.inl (x3 + ((am_I M (am_R M r1 7) x5.toNatClampNeg) * x2)), .inl (x4 + ((am_I M (am_R M r1 8) x5.toNatClampNeg) * x2)), .inl ((am_I M (am_R M r1 9) x5.toNatClampNeg) * x2)] dX0_addTimes_45 cvX0_37 (mt0_add q11) (am_ke q8) ⟨rfl, rfl, Nat.le_of_ble_eq_true rfl, Nat.le_of_ble_eq_true rfl⟩ rfl (Nat.le_of_ble_eq_true rfl) ⟨Nat.le_of_ble_eq_true rfl, Nat.le_of_ble_eq_true rfl⟩ ?_
    refine am_iincw cx (lv' := [(0, .inr (.inr (.inl r0))), (1, .inr (.inr (.inl r1))), (2, .inl x2), (3, .inl x3), (4, .inl x4), (5, .inl (x5 + (1 : Int32)))]) (w := (1 : Int32)) 5 dX0_addTimes_48 (by decide) rfl (Nat.le_of_ble_eq_true rfl) rfl ?_
    refine am_goto cx (tgt := 3) dX0_addTimes_51 (by decide) ?_
    exact hk3 _ _ _ _ _ _ _ hres
set_option maxRecDepth 20000 in
theorem sn0_addTimes_b3 {l : Launch} {G : am_G} {M' : am_Mem} {N : Nat}  (cx : am_Ctx l rm0_addTimes yX0_addTimes cX0_addTimes 6 none none M' 0 0 G)  (i : Nat) : ∀ (r0 : Nat) (r1 : Nat) (x2 : Int32) (x3 : Int32) (x4 : Int32) (x5 : Int32) (M : am_Mem), fn0_addTimes_b3 N  i r0 r1 x2 x3 x4 x5 M = some ((), M') → G 3 [(0, .inr (.inr (.inl r0))), (1, .inr (.inr (.inl r1))), (2, .inl x2), (3, .inl x3), (4, .inl x4), (5, .inl x5)] [] M 0 0 := by
  induction i with
  | zero => intro r0 r1 x2 x3 x4 x5 M hres; exact am_no hres
  | succ i ih => intro r0 r1 x2 x3 x4 x5 M hres; exact sn0_addTimes_b3B cx ih hres
set_option maxRecDepth 20000 in
theorem sn0_addTimes_b0 {l : Launch} {G : am_G} {M' : am_Mem} {N : Nat}  (cx : am_Ctx l rm0_addTimes yX0_addTimes cX0_addTimes 6 none none M' 0 0 G)  {r0 : Nat} {r1 : Nat} {x2 : Int32} {x3 : Int32} {x4 : Int32} {M : am_Mem} (hres : fn0_addTimes_b0 N  r0 r1 x2 x3 x4 M = some ((), M')) : G 0 [(0, .inr (.inr (.inl r0))), (1, .inr (.inr (.inl r1))), (2, .inl x2), (3, .inl x3), (4, .inl x4)] [] M 0 0 := by
  unfold fn0_addTimes_b0 at hres
  refine am_iconst cx (v := (0 : Int32)) dX0_addTimes_0 (by decide) ?_
  refine am_istore cx (lv' := [(0, .inr (.inr (.inl r0))), (1, .inr (.inr (.inl r1))), (2, .inl x2), (3, .inl x3), (4, .inl x4), (5, .inl (0 : Int32))]) dX0_addTimes_1 (Nat.le_of_ble_eq_true rfl) rfl ?_
  exact sn0_addTimes_b3 cx  N _ _ _ _ _ _ _ hres
set_option maxRecDepth 20000 in
theorem mt0_addTimes {l : Launch} {M M' : am_Mem} {N : Nat} {r0 : Nat} {r1 : Nat} {x2 : Int32} {x3 : Int32} {x4 : Int32} (h : fn0_addTimes N M r0 r1 x2 x3 x4 = some ((), M')) : am_Met l yX0_addTimes cX0_addTimes 6 none rm0_addTimes 0 0 [.inr (.inr (.inl r0)), .inr (.inr (.inl r1)), .inl x2, .inl x3, .inl x4] M none M' := am_mk (by decide) (Nat.le_of_ble_eq_true rfl) (fun G cx => (sn0_addTimes_b0 cx h))
-- SquareCuts$Draft.isBehind
def fn0_isBehind_b35  (a0 : Int32) (M : am_Mem) : Option (Int32 × am_Mem) :=
  am_ck (a0 == 0 || a0 == 1) (some (a0, M))
def fn0_isBehind_b30   (M : am_Mem) : Option (Int32 × am_Mem) :=
  fn0_isBehind_b35  (1 : Int32) M
def fn0_isBehind_b34   (M : am_Mem) : Option (Int32 × am_Mem) :=
  fn0_isBehind_b35  (0 : Int32) M
def fn0_isBehind_b0  (r0 : Nat) (x1 : Int32) (x2 : Int32) (x3 : Int32) (M : am_Mem) : Option (Int32 × am_Mem) :=
  am_ck (am_k M r0 0) (am_ck (am_k M (am_R M r0 1) 14) (am_ck (am_in x1 (am_L M (am_R M r0 1))) (if x3 < (am_I M (am_R M r0 1) x1.toNatClampNeg) then fn0_isBehind_b30   M else am_ck (am_in x1 (am_L M (am_R M r0 1))) (if (am_I M (am_R M r0 1) x1.toNatClampNeg) = x3 then am_ck (am_k M (am_R M r0 0) 14) (am_ck (am_in x1 (am_L M (am_R M r0 0))) (if (am_I M (am_R M r0 0) x1.toNatClampNeg) ≤ x2 then fn0_isBehind_b34   M else fn0_isBehind_b30   M)) else fn0_isBehind_b34   M))))
def fn0_isBehind (M : am_Mem) (r0 : Nat) (x1 : Int32) (x2 : Int32) (x3 : Int32) : Option (Int32 × am_Mem) := fn0_isBehind_b0  r0 x1 x2 x3 M
def rm0_isBehind : Room := { frames := 0, cells := 0, slots := 0, locals := 0 }
set_option maxRecDepth 20000 in
theorem sn0_isBehind_b35 {l : Launch} {G : am_G} {v : Int32} {M' : am_Mem}  (cx : am_Ctx l rm0_isBehind yX0_isBehind cX0_isBehind 4 (some .boolean) (some (.inl v)) M' 0 0 G)  {a0 : Int32} {M : am_Mem} (hres : fn0_isBehind_b35  a0 M = some (v, M')) : G 35 [] [.inl a0] M 0 0 := by
  unfold fn0_isBehind_b35 at hres
  obtain ⟨q1, hres⟩ := am_ck_some hres
  obtain ⟨rfl, rfl⟩ := am_fin hres
  exact am_zret cx q1 dX0_isBehind_35
set_option maxRecDepth 20000 in
theorem sn0_isBehind_b30 {l : Launch} {G : am_G} {v : Int32} {M' : am_Mem}  (cx : am_Ctx l rm0_isBehind yX0_isBehind cX0_isBehind 4 (some .boolean) (some (.inl v)) M' 0 0 G)   {M : am_Mem} (hres : fn0_isBehind_b30   M = some (v, M')) : G 30 [] [] M 0 0 := by
  unfold fn0_isBehind_b30 at hres
  refine am_iconst cx (v := (1 : Int32)) dX0_isBehind_30 (by decide) ?_
  refine am_goto cx (tgt := 35) dX0_isBehind_31 (by decide) ?_
  exact sn0_isBehind_b35 cx  hres
set_option maxRecDepth 20000 in
theorem sn0_isBehind_b34 {l : Launch} {G : am_G} {v : Int32} {M' : am_Mem}  (cx : am_Ctx l rm0_isBehind yX0_isBehind cX0_isBehind 4 (some .boolean) (some (.inl v)) M' 0 0 G)   {M : am_Mem} (hres : fn0_isBehind_b34   M = some (v, M')) : G 34 [] [] M 0 0 := by
  unfold fn0_isBehind_b34 at hres
  refine am_iconst cx (v := (0 : Int32)) dX0_isBehind_34 (by decide) ?_
  exact sn0_isBehind_b35 cx  hres
set_option maxRecDepth 20000 in
theorem sn0_isBehind_b0 {l : Launch} {G : am_G} {v : Int32} {M' : am_Mem}  (cx : am_Ctx l rm0_isBehind yX0_isBehind cX0_isBehind 4 (some .boolean) (some (.inl v)) M' 0 0 G)  {r0 : Nat} {x1 : Int32} {x2 : Int32} {x3 : Int32} {M : am_Mem} (hres : fn0_isBehind_b0  r0 x1 x2 x3 M = some (v, M')) : G 0 [(0, .inr (.inr (.inl r0))), (1, .inl x1), (2, .inl x2), (3, .inl x3)] [] M 0 0 := by
  unfold fn0_isBehind_b0 at hres
  refine am_aload_n cx 0 dX0_isBehind_0 rfl ?_
  obtain ⟨q1, hres⟩ := am_ck_some hres
  refine am_getR cx dX0_isBehind_1 flX0_15 (am_ke q1) ?_
  refine am_iload_n cx 1 dX0_isBehind_4 rfl ?_
  obtain ⟨q2, hres⟩ := am_ck_some hres
  obtain ⟨q3, hres⟩ := am_ck_some hres
  refine am_iald cx dX0_isBehind_5 (am_ke q2) q3 ?_
  refine am_iload_n cx 3 dX0_isBehind_6 rfl ?_
  refine am_icmp_gt cx (tgt := 30) dX0_isBehind_7 (by decide) (fun h => ?_) (fun h => ?_)
  · have hres := am_ifp h hres
    refine am_sub cx [] rfl ?_
    exact sn0_isBehind_b30 cx  hres
  · have hres := am_ifn h hres
    refine am_aload_n cx 0 dX0_isBehind_10 rfl ?_
    refine am_getR cx dX0_isBehind_11 flX0_15 (am_ke q1) ?_
    refine am_iload_n cx 1 dX0_isBehind_14 rfl ?_
    obtain ⟨q4, hres⟩ := am_ck_some hres
    refine am_iald cx dX0_isBehind_15 (am_ke q2) q4 ?_
    refine am_iload_n cx 3 dX0_isBehind_16 rfl ?_
    refine am_icmp_ne cx (tgt := 34) dX0_isBehind_17 (by decide) (fun h => ?_) (fun h => ?_)
    · have hres := am_ifn h hres
      refine am_sub cx [] rfl ?_
      exact sn0_isBehind_b34 cx  hres
    · have hres := am_ifp h hres
      refine am_aload_n cx 0 dX0_isBehind_20 rfl ?_
      refine am_getR cx dX0_isBehind_21 flX0_9 (am_ke q1) ?_
      refine am_iload_n cx 1 dX0_isBehind_24 rfl ?_
      obtain ⟨q5, hres⟩ := am_ck_some hres
      obtain ⟨q6, hres⟩ := am_ck_some hres
      refine am_iald cx dX0_isBehind_25 (am_ke q5) q6 ?_
      refine am_iload_n cx 2 dX0_isBehind_26 rfl ?_
      refine am_icmp_le cx (tgt := 34) dX0_isBehind_27 (by decide) (fun h => ?_) (fun h => ?_)
      · have hres := am_ifp h hres
        refine am_sub cx [] rfl ?_
        exact sn0_isBehind_b34 cx  hres
      · have hres := am_ifn h hres
        refine am_sub cx [] rfl ?_
        exact sn0_isBehind_b30 cx  hres
set_option maxRecDepth 20000 in
theorem mt0_isBehind {l : Launch} {v : Int32} {M M' : am_Mem} {r0 : Nat} {x1 : Int32} {x2 : Int32} {x3 : Int32} (h : fn0_isBehind M r0 x1 x2 x3 = some (v, M')) : am_Met l yX0_isBehind cX0_isBehind 4 (some .boolean) rm0_isBehind 0 0 [.inr (.inr (.inl r0)), .inl x1, .inl x2, .inl x3] M (some (.inl v)) M' := am_mk (by decide) (Nat.le_of_ble_eq_true rfl) (fun G cx => (sn0_isBehind_b0 cx h))
-- SquareCuts$Draft.equalTo
def fn0_equalTo_b90 (N : Nat)   (M : am_Mem) : Option (Int32 × am_Mem) :=
  some ((0 : Int32), M)
def fn0_equalTo_b37B (N : Nat) (k37 : Nat → Nat → Int32 → am_Mem → Option (Int32 × am_Mem)) (r0 : Nat) (r1 : Nat) (x2 : Int32) (M : am_Mem) : Option (Int32 × am_Mem) :=
  am_ck (am_k M r0 0) (if (am_I M r0 3) ≤ x2 then some ((1 : Int32), M) else am_ck (am_k M (am_R M r0 0) 14) (am_ck (am_in x2 (am_L M (am_R M r0 0))) (am_ck (am_k M r1 0) (am_ck (am_k M (am_R M r1 0) 14) (am_ck (am_in x2 (am_L M (am_R M r1 0))) (if (am_I M (am_R M r0 0) x2.toNatClampNeg) = (am_I M (am_R M r1 0) x2.toNatClampNeg) then am_ck (am_k M (am_R M r0 1) 14) (am_ck (am_in x2 (am_L M (am_R M r0 1))) (am_ck (am_k M (am_R M r1 1) 14) (am_ck (am_in x2 (am_L M (am_R M r1 1))) (if (am_I M (am_R M r0 1) x2.toNatClampNeg) = (am_I M (am_R M r1 1) x2.toNatClampNeg) then am_ck (am_k M (am_R M r0 2) 14) (am_ck (am_in x2 (am_L M (am_R M r0 2))) (am_ck (am_k M (am_R M r1 2) 14) (am_ck (am_in x2 (am_L M (am_R M r1 2))) (if (am_I M (am_R M r0 2) x2.toNatClampNeg) = (am_I M (am_R M r1 2) x2.toNatClampNeg) then k37 r0 r1 (x2 + (1 : Int32)) M else fn0_equalTo_b90 N   M)))) else fn0_equalTo_b90 N   M)))) else fn0_equalTo_b90 N   M))))))
def fn0_equalTo_b37 (N : Nat)  : Nat → Nat → Nat → Int32 → am_Mem → Option (Int32 × am_Mem)
  | 0 => fun _ _ _ _ => none
  | i + 1 => fn0_equalTo_b37B N (fn0_equalTo_b37 N  i)
def fn0_equalTo_b33 (N : Nat)   (M : am_Mem) : Option (Int32 × am_Mem) :=
  some ((0 : Int32), M)
def fn0_equalTo_b0 (N : Nat)  (r0 : Nat) (r1 : Nat) (M : am_Mem) : Option (Int32 × am_Mem) :=
  am_ck (am_k M r0 0) (am_ck (am_k M r1 0) (if (am_I M r0 3) = (am_I M r1 3) then if (am_I M r0 4) = (am_I M r1 4) then if (am_I M r0 5) = (am_I M r1 5) then fn0_equalTo_b37 N  N r0 r1 (0 : Int32) M else fn0_equalTo_b33 N   M else fn0_equalTo_b33 N   M else fn0_equalTo_b33 N   M))
def fn0_equalTo (N : Nat) (M : am_Mem) (r0 : Nat) (r1 : Nat) : Option (Int32 × am_Mem) := fn0_equalTo_b0 N r0 r1 M
def rm0_equalTo : Room := { frames := 0, cells := 0, slots := 0, locals := 0 }
set_option maxRecDepth 20000 in
theorem sn0_equalTo_b90 {l : Launch} {G : am_G} {v : Int32} {M' : am_Mem} {N : Nat}  (cx : am_Ctx l rm0_equalTo yX0_equalTo cX0_equalTo 3 (some .boolean) (some (.inl v)) M' 0 0 G)   {M : am_Mem} (hres : fn0_equalTo_b90 N   M = some (v, M')) : G 90 [] [] M 0 0 := by
  unfold fn0_equalTo_b90 at hres
  refine am_iconst cx (v := (0 : Int32)) dX0_equalTo_90 (by decide) ?_
  obtain ⟨rfl, rfl⟩ := am_fin hres
  exact am_zret cx rfl dX0_equalTo_91
set_option maxRecDepth 20000 in
theorem sn0_equalTo_b37B {l : Launch} {G : am_G} {v : Int32} {M' : am_Mem} {N : Nat} {k37 : Nat → Nat → Int32 → am_Mem → Option (Int32 × am_Mem)} (cx : am_Ctx l rm0_equalTo yX0_equalTo cX0_equalTo 3 (some .boolean) (some (.inl v)) M' 0 0 G) (hk37 : ∀ (r0 : Nat) (r1 : Nat) (x2 : Int32) (M : am_Mem), k37 r0 r1 x2 M = some (v, M') → G 37 [(0, .inr (.inr (.inl r0))), (1, .inr (.inr (.inl r1))), (2, .inl x2)] [] M 0 0) {r0 : Nat} {r1 : Nat} {x2 : Int32} {M : am_Mem} (hres : fn0_equalTo_b37B N k37 r0 r1 x2 M = some (v, M')) : G 37 [(0, .inr (.inr (.inl r0))), (1, .inr (.inr (.inl r1))), (2, .inl x2)] [] M 0 0 := by
  unfold fn0_equalTo_b37B at hres
  refine am_iload_n cx 2 dX0_equalTo_37 rfl ?_
  refine am_aload_n cx 0 dX0_equalTo_38 rfl ?_
  obtain ⟨q1, hres⟩ := am_ck_some hres
  refine am_getI cx dX0_equalTo_39 flX0_28 (am_ke q1) ?_
  refine am_icmp_ge cx (tgt := 98) dX0_equalTo_42 (by decide) (fun h => ?_) (fun h => ?_)
  · have hres := am_ifp h hres
    refine am_iconst cx (v := (1 : Int32)) dX0_equalTo_98 (by decide) ?_
    obtain ⟨rfl, rfl⟩ := am_fin hres
    exact am_zret cx rfl dX0_equalTo_99
  · have hres := am_ifn h hres
    refine am_aload_n cx 0 dX0_equalTo_45 rfl ?_
    refine am_getR cx dX0_equalTo_46 flX0_9 (am_ke q1) ?_
    refine am_iload_n cx 2 dX0_equalTo_49 rfl ?_
    obtain ⟨q2, hres⟩ := am_ck_some hres
    obtain ⟨q3, hres⟩ := am_ck_some hres
    refine am_iald cx dX0_equalTo_50 (am_ke q2) q3 ?_
    refine am_aload_n cx 1 dX0_equalTo_51 rfl ?_
    obtain ⟨q4, hres⟩ := am_ck_some hres
    refine am_getR cx dX0_equalTo_52 flX0_9 (am_ke q4) ?_
    refine am_iload_n cx 2 dX0_equalTo_55 rfl ?_
    obtain ⟨q5, hres⟩ := am_ck_some hres
    obtain ⟨q6, hres⟩ := am_ck_some hres
    refine am_iald cx dX0_equalTo_56 (am_ke q5) q6 ?_
    refine am_icmp_ne cx (tgt := 90) dX0_equalTo_57 (by decide) (fun h => ?_) (fun h => ?_)
    · have hres := am_ifn h hres
      refine am_sub cx [] rfl ?_
      exact sn0_equalTo_b90 cx  hres
    · have hres := am_ifp h hres
      refine am_aload_n cx 0 dX0_equalTo_60 rfl ?_
      refine am_getR cx dX0_equalTo_61 flX0_15 (am_ke q1) ?_
      refine am_iload_n cx 2 dX0_equalTo_64 rfl ?_
      obtain ⟨q7, hres⟩ := am_ck_some hres
      obtain ⟨q8, hres⟩ := am_ck_some hres
      refine am_iald cx dX0_equalTo_65 (am_ke q7) q8 ?_
      refine am_aload_n cx 1 dX0_equalTo_66 rfl ?_
      refine am_getR cx dX0_equalTo_67 flX0_15 (am_ke q4) ?_
      refine am_iload_n cx 2 dX0_equalTo_70 rfl ?_
      obtain ⟨q9, hres⟩ := am_ck_some hres
      obtain ⟨q10, hres⟩ := am_ck_some hres
      refine am_iald cx dX0_equalTo_71 (am_ke q9) q10 ?_
      refine am_icmp_ne cx (tgt := 90) dX0_equalTo_72 (by decide) (fun h => ?_) (fun h => ?_)
      · have hres := am_ifn h hres
        refine am_sub cx [] rfl ?_
        exact sn0_equalTo_b90 cx  hres
      · have hres := am_ifp h hres
        refine am_aload_n cx 0 dX0_equalTo_75 rfl ?_
        refine am_getR cx dX0_equalTo_76 flX0_18 (am_ke q1) ?_
        refine am_iload_n cx 2 dX0_equalTo_79 rfl ?_
        obtain ⟨q11, hres⟩ := am_ck_some hres
        obtain ⟨q12, hres⟩ := am_ck_some hres
        refine am_iald cx dX0_equalTo_80 (am_ke q11) q12 ?_
        refine am_aload_n cx 1 dX0_equalTo_81 rfl ?_
        refine am_getR cx dX0_equalTo_82 flX0_18 (am_ke q4) ?_
        refine am_iload_n cx 2 dX0_equalTo_85 rfl ?_
        obtain ⟨q13, hres⟩ := am_ck_some hres
        obtain ⟨q14, hres⟩ := am_ck_some hres
        refine am_iald cx dX0_equalTo_86 (am_ke q13) q14 ?_
        refine am_icmp_eq cx (tgt := 92) dX0_equalTo_87 (by decide) (fun h => ?_) (fun h => ?_)
        · have hres := am_ifp h hres
          refine am_iincw cx (lv' := [(0, .inr (.inr (.inl r0))), (1, .inr (.inr (.inl r1))), (2, .inl (x2 + (1 : Int32)))]) (w := (1 : Int32)) 2 dX0_equalTo_92 (by decide) rfl (Nat.le_of_ble_eq_true rfl) rfl ?_
          refine am_goto cx (tgt := 37) dX0_equalTo_95 (by decide) ?_
          exact hk37 _ _ _ _ hres
        · have hres := am_ifn h hres
          refine am_sub cx [] rfl ?_
          exact sn0_equalTo_b90 cx  hres
set_option maxRecDepth 20000 in
theorem sn0_equalTo_b37 {l : Launch} {G : am_G} {v : Int32} {M' : am_Mem} {N : Nat}  (cx : am_Ctx l rm0_equalTo yX0_equalTo cX0_equalTo 3 (some .boolean) (some (.inl v)) M' 0 0 G)  (i : Nat) : ∀ (r0 : Nat) (r1 : Nat) (x2 : Int32) (M : am_Mem), fn0_equalTo_b37 N  i r0 r1 x2 M = some (v, M') → G 37 [(0, .inr (.inr (.inl r0))), (1, .inr (.inr (.inl r1))), (2, .inl x2)] [] M 0 0 := by
  induction i with
  | zero => intro r0 r1 x2 M hres; exact am_no hres
  | succ i ih => intro r0 r1 x2 M hres; exact sn0_equalTo_b37B cx ih hres
set_option maxRecDepth 20000 in
theorem sn0_equalTo_b33 {l : Launch} {G : am_G} {v : Int32} {M' : am_Mem} {N : Nat}  (cx : am_Ctx l rm0_equalTo yX0_equalTo cX0_equalTo 3 (some .boolean) (some (.inl v)) M' 0 0 G)   {M : am_Mem} (hres : fn0_equalTo_b33 N   M = some (v, M')) : G 33 [] [] M 0 0 := by
  unfold fn0_equalTo_b33 at hres
  refine am_iconst cx (v := (0 : Int32)) dX0_equalTo_33 (by decide) ?_
  obtain ⟨rfl, rfl⟩ := am_fin hres
  exact am_zret cx rfl dX0_equalTo_34
set_option maxRecDepth 20000 in
theorem sn0_equalTo_b0 {l : Launch} {G : am_G} {v : Int32} {M' : am_Mem} {N : Nat}  (cx : am_Ctx l rm0_equalTo yX0_equalTo cX0_equalTo 3 (some .boolean) (some (.inl v)) M' 0 0 G)  {r0 : Nat} {r1 : Nat} {M : am_Mem} (hres : fn0_equalTo_b0 N  r0 r1 M = some (v, M')) : G 0 [(0, .inr (.inr (.inl r0))), (1, .inr (.inr (.inl r1)))] [] M 0 0 := by
  unfold fn0_equalTo_b0 at hres
  refine am_aload_n cx 0 dX0_equalTo_0 rfl ?_
  obtain ⟨q1, hres⟩ := am_ck_some hres
  refine am_getI cx dX0_equalTo_1 flX0_28 (am_ke q1) ?_
  refine am_aload_n cx 1 dX0_equalTo_4 rfl ?_
  obtain ⟨q2, hres⟩ := am_ck_some hres
  refine am_getI cx dX0_equalTo_5 flX0_28 (am_ke q2) ?_
  refine am_icmp_ne cx (tgt := 33) dX0_equalTo_8 (by decide) (fun h => ?_) (fun h => ?_)
  · have hres := am_ifn h hres
    refine am_sub cx [] rfl ?_
    exact sn0_equalTo_b33 cx  hres
  · have hres := am_ifp h hres
    refine am_aload_n cx 0 dX0_equalTo_11 rfl ?_
    refine am_getI cx dX0_equalTo_12 flX0_21 (am_ke q1) ?_
    refine am_aload_n cx 1 dX0_equalTo_15 rfl ?_
    refine am_getI cx dX0_equalTo_16 flX0_21 (am_ke q2) ?_
    refine am_icmp_ne cx (tgt := 33) dX0_equalTo_19 (by decide) (fun h => ?_) (fun h => ?_)
    · have hres := am_ifn h hres
      refine am_sub cx [] rfl ?_
      exact sn0_equalTo_b33 cx  hres
    · have hres := am_ifp h hres
      refine am_aload_n cx 0 dX0_equalTo_22 rfl ?_
      refine am_getI cx dX0_equalTo_23 flX0_25 (am_ke q1) ?_
      refine am_aload_n cx 1 dX0_equalTo_26 rfl ?_
      refine am_getI cx dX0_equalTo_27 flX0_25 (am_ke q2) ?_
      refine am_icmp_eq cx (tgt := 35) dX0_equalTo_30 (by decide) (fun h => ?_) (fun h => ?_)
      · have hres := am_ifp h hres
        refine am_iconst cx (v := (0 : Int32)) dX0_equalTo_35 (by decide) ?_
        refine am_istore_n cx (lv' := [(0, .inr (.inr (.inl r0))), (1, .inr (.inr (.inl r1))), (2, .inl (0 : Int32))]) dX0_equalTo_36 (Nat.le_of_ble_eq_true rfl) rfl ?_
        exact sn0_equalTo_b37 cx  N _ _ _ _ hres
      · have hres := am_ifn h hres
        refine am_sub cx [] rfl ?_
        exact sn0_equalTo_b33 cx  hres
set_option maxRecDepth 20000 in
theorem mt0_equalTo {l : Launch} {v : Int32} {M M' : am_Mem} {N : Nat} {r0 : Nat} {r1 : Nat} (h : fn0_equalTo N M r0 r1 = some (v, M')) : am_Met l yX0_equalTo cX0_equalTo 3 (some .boolean) rm0_equalTo 0 0 [.inr (.inr (.inl r0)), .inr (.inr (.inl r1))] M (some (.inl v)) M' := am_mk (by decide) (Nat.le_of_ble_eq_true rfl) (fun G cx => (sn0_equalTo_b0 cx h))
-- SquareCuts$GroupLayer.groupSum
def fn1_groupSum_b43 (N : Nat)  (x4 : Int32) (M : am_Mem) : Option (Int32 × am_Mem) :=
  some (x4, M)
def fn1_groupSum_b37 (N : Nat) (k9 : Nat → Nat → Nat → Int32 → Int32 → Int32 → am_Mem → Option (Int32 × am_Mem)) (r0 : Nat) (r1 : Nat) (r2 : Nat) (x3 : Int32) (x4 : Int32) (x5 : Int32) (M : am_Mem) : Option (Int32 × am_Mem) :=
  k9 r0 r1 r2 x3 x4 (x5 + (1 : Int32)) M
def fn1_groupSum_b9B (N : Nat) (k9 : Nat → Nat → Nat → Int32 → Int32 → Int32 → am_Mem → Option (Int32 × am_Mem)) (r0 : Nat) (r1 : Nat) (r2 : Nat) (x3 : Int32) (x4 : Int32) (x5 : Int32) (M : am_Mem) : Option (Int32 × am_Mem) :=
  if x3 ≤ x5 then fn1_groupSum_b43 N  x4 M else am_ck (am_k M r2 14) (am_ck (am_in x5 (am_L M r2)) (am_ck (am_k M r0 1) (am_ck (am_in (am_I M r0 1) (am_L M r2)) (if (am_I M r2 x5.toNatClampNeg) = (am_I M r2 (am_I M r0 1).toNatClampNeg) then am_ck (am_k M r1 14) (am_ck (am_in x5 (am_L M r1)) (fn1_groupSum_b37 N k9 r0 r1 r2 x3 (x4 + (am_I M r1 x5.toNatClampNeg)) x5 M)) else fn1_groupSum_b43 N  x4 M))))
def fn1_groupSum_b9 (N : Nat)  : Nat → Nat → Nat → Nat → Int32 → Int32 → Int32 → am_Mem → Option (Int32 × am_Mem)
  | 0 => fun _ _ _ _ _ _ _ => none
  | i + 1 => fn1_groupSum_b9B N (fn1_groupSum_b9 N  i)
def fn1_groupSum_b0 (N : Nat)  (r0 : Nat) (r1 : Nat) (r2 : Nat) (x3 : Int32) (M : am_Mem) : Option (Int32 × am_Mem) :=
  am_ck (am_k M r0 1) (fn1_groupSum_b9 N  N r0 r1 r2 x3 (0 : Int32) (am_I M r0 1) M)
def fn1_groupSum (N : Nat) (M : am_Mem) (r0 : Nat) (r1 : Nat) (r2 : Nat) (x3 : Int32) : Option (Int32 × am_Mem) := fn1_groupSum_b0 N r0 r1 r2 x3 M
def rm1_groupSum : Room := { frames := 0, cells := 0, slots := 0, locals := 0 }
set_option maxRecDepth 20000 in
theorem sn1_groupSum_b43 {l : Launch} {G : am_G} {v : Int32} {M' : am_Mem} {N : Nat}  (cx : am_Ctx l rm1_groupSum yX1_groupSum cX1_groupSum 6 (some .int) (some (.inl v)) M' 0 0 G)  {x4 : Int32} {M : am_Mem} (hres : fn1_groupSum_b43 N  x4 M = some (v, M')) : G 43 [(4, .inl x4)] [] M 0 0 := by
  unfold fn1_groupSum_b43 at hres
  refine am_iload cx 0 dX1_groupSum_43 rfl ?_
  obtain ⟨rfl, rfl⟩ := am_fin hres
  exact am_iret cx dX1_groupSum_45
set_option maxRecDepth 20000 in
theorem sn1_groupSum_b37 {l : Launch} {G : am_G} {v : Int32} {M' : am_Mem} {N : Nat} {k9 : Nat → Nat → Nat → Int32 → Int32 → Int32 → am_Mem → Option (Int32 × am_Mem)} (cx : am_Ctx l rm1_groupSum yX1_groupSum cX1_groupSum 6 (some .int) (some (.inl v)) M' 0 0 G) (hk9 : ∀ (r0 : Nat) (r1 : Nat) (r2 : Nat) (x3 : Int32) (x4 : Int32) (x5 : Int32) (M : am_Mem), k9 r0 r1 r2 x3 x4 x5 M = some (v, M') → G 9 [(0, .inr (.inr (.inl r0))), (1, .inr (.inr (.inl r1))), (2, .inr (.inr (.inl r2))), (3, .inl x3), (4, .inl x4), (5, .inl x5)] [] M 0 0) {r0 : Nat} {r1 : Nat} {r2 : Nat} {x3 : Int32} {x4 : Int32} {x5 : Int32} {M : am_Mem} (hres : fn1_groupSum_b37 N k9 r0 r1 r2 x3 x4 x5 M = some (v, M')) : G 37 [(0, .inr (.inr (.inl r0))), (1, .inr (.inr (.inl r1))), (2, .inr (.inr (.inl r2))), (3, .inl x3), (4, .inl x4), (5, .inl x5)] [] M 0 0 := by
  unfold fn1_groupSum_b37 at hres
  refine am_iincw cx (lv' := [(0, .inr (.inr (.inl r0))), (1, .inr (.inr (.inl r1))), (2, .inr (.inr (.inl r2))), (3, .inl x3), (4, .inl x4), (5, .inl (x5 + (1 : Int32)))]) (w := (1 : Int32)) 5 dX1_groupSum_37 (by decide) rfl (Nat.le_of_ble_eq_true rfl) rfl ?_
  refine am_goto cx (tgt := 9) dX1_groupSum_40 (by decide) ?_
  exact hk9 _ _ _ _ _ _ _ hres
set_option maxRecDepth 20000 in
theorem sn1_groupSum_b9B {l : Launch} {G : am_G} {v : Int32} {M' : am_Mem} {N : Nat} {k9 : Nat → Nat → Nat → Int32 → Int32 → Int32 → am_Mem → Option (Int32 × am_Mem)} (cx : am_Ctx l rm1_groupSum yX1_groupSum cX1_groupSum 6 (some .int) (some (.inl v)) M' 0 0 G) (hk9 : ∀ (r0 : Nat) (r1 : Nat) (r2 : Nat) (x3 : Int32) (x4 : Int32) (x5 : Int32) (M : am_Mem), k9 r0 r1 r2 x3 x4 x5 M = some (v, M') → G 9 [(0, .inr (.inr (.inl r0))), (1, .inr (.inr (.inl r1))), (2, .inr (.inr (.inl r2))), (3, .inl x3), (4, .inl x4), (5, .inl x5)] [] M 0 0) {r0 : Nat} {r1 : Nat} {r2 : Nat} {x3 : Int32} {x4 : Int32} {x5 : Int32} {M : am_Mem} (hres : fn1_groupSum_b9B N k9 r0 r1 r2 x3 x4 x5 M = some (v, M')) : G 9 [(0, .inr (.inr (.inl r0))), (1, .inr (.inr (.inl r1))), (2, .inr (.inr (.inl r2))), (3, .inl x3), (4, .inl x4), (5, .inl x5)] [] M 0 0 := by
  unfold fn1_groupSum_b9B at hres
  refine am_iload cx 5 dX1_groupSum_9 rfl ?_
  refine am_iload_n cx 3 dX1_groupSum_11 rfl ?_
  refine am_icmp_ge cx (tgt := 43) dX1_groupSum_12 (by decide) (fun h => ?_) (fun h => ?_)
  · have hres := am_ifp h hres
    refine am_sub cx [4] rfl ?_
    exact sn1_groupSum_b43 cx  hres
  · have hres := am_ifn h hres
    refine am_aload_n cx 2 dX1_groupSum_15 rfl ?_
    refine am_iload cx 5 dX1_groupSum_16 rfl ?_
    obtain ⟨q1, hres⟩ := am_ck_some hres
    obtain ⟨q2, hres⟩ := am_ck_some hres
    refine am_iald cx dX1_groupSum_18 (am_ke q1) q2 ?_
    refine am_aload_n cx 2 dX1_groupSum_19 rfl ?_
    refine am_aload_n cx 0 dX1_groupSum_20 rfl ?_
    obtain ⟨q3, hres⟩ := am_ck_some hres
    refine am_getI cx dX1_groupSum_21 flX1_20 (am_ke q3) ?_
    obtain ⟨q4, hres⟩ := am_ck_some hres
    refine am_iald cx dX1_groupSum_24 (am_ke q1) q4 ?_
    refine am_icmp_ne cx (tgt := 43) dX1_groupSum_25 (by decide) (fun h => ?_) (fun h => ?_)
    · have hres := am_ifn h hres
      refine am_sub cx [4] rfl ?_
      exact sn1_groupSum_b43 cx  hres
    · have hres := am_ifp h hres
      refine am_iload cx 4 dX1_groupSum_28 rfl ?_
      refine am_aload_n cx 1 dX1_groupSum_30 rfl ?_
      refine am_iload cx 5 dX1_groupSum_31 rfl ?_
      obtain ⟨q5, hres⟩ := am_ck_some hres
      obtain ⟨q6, hres⟩ := am_ck_some hres
      refine am_iald cx dX1_groupSum_33 (am_ke q5) q6 ?_
      refine am_iadd cx dX1_groupSum_34 ?_
      refine am_istore cx (lv' := [(0, .inr (.inr (.inl r0))), (1, .inr (.inr (.inl r1))), (2, .inr (.inr (.inl r2))), (3, .inl x3), (4, .inl (x4 + (am_I M r1 x5.toNatClampNeg))), (5, .inl x5)]) dX1_groupSum_35 (Nat.le_of_ble_eq_true rfl) rfl ?_
      exact sn1_groupSum_b37 cx hk9 hres
set_option maxRecDepth 20000 in
theorem sn1_groupSum_b9 {l : Launch} {G : am_G} {v : Int32} {M' : am_Mem} {N : Nat}  (cx : am_Ctx l rm1_groupSum yX1_groupSum cX1_groupSum 6 (some .int) (some (.inl v)) M' 0 0 G)  (i : Nat) : ∀ (r0 : Nat) (r1 : Nat) (r2 : Nat) (x3 : Int32) (x4 : Int32) (x5 : Int32) (M : am_Mem), fn1_groupSum_b9 N  i r0 r1 r2 x3 x4 x5 M = some (v, M') → G 9 [(0, .inr (.inr (.inl r0))), (1, .inr (.inr (.inl r1))), (2, .inr (.inr (.inl r2))), (3, .inl x3), (4, .inl x4), (5, .inl x5)] [] M 0 0 := by
  induction i with
  | zero => intro r0 r1 r2 x3 x4 x5 M hres; exact am_no hres
  | succ i ih => intro r0 r1 r2 x3 x4 x5 M hres; exact sn1_groupSum_b9B cx ih hres
set_option maxRecDepth 20000 in
theorem sn1_groupSum_b0 {l : Launch} {G : am_G} {v : Int32} {M' : am_Mem} {N : Nat}  (cx : am_Ctx l rm1_groupSum yX1_groupSum cX1_groupSum 6 (some .int) (some (.inl v)) M' 0 0 G)  {r0 : Nat} {r1 : Nat} {r2 : Nat} {x3 : Int32} {M : am_Mem} (hres : fn1_groupSum_b0 N  r0 r1 r2 x3 M = some (v, M')) : G 0 [(0, .inr (.inr (.inl r0))), (1, .inr (.inr (.inl r1))), (2, .inr (.inr (.inl r2))), (3, .inl x3)] [] M 0 0 := by
  unfold fn1_groupSum_b0 at hres
  refine am_iconst cx (v := (0 : Int32)) dX1_groupSum_0 (by decide) ?_
  refine am_istore cx (lv' := [(0, .inr (.inr (.inl r0))), (1, .inr (.inr (.inl r1))), (2, .inr (.inr (.inl r2))), (3, .inl x3), (4, .inl (0 : Int32))]) dX1_groupSum_1 (Nat.le_of_ble_eq_true rfl) rfl ?_
  refine am_aload_n cx 0 dX1_groupSum_3 rfl ?_
  obtain ⟨q1, hres⟩ := am_ck_some hres
  refine am_getI cx dX1_groupSum_4 flX1_20 (am_ke q1) ?_
  refine am_istore cx (lv' := [(0, .inr (.inr (.inl r0))), (1, .inr (.inr (.inl r1))), (2, .inr (.inr (.inl r2))), (3, .inl x3), (4, .inl (0 : Int32)), (5, .inl (am_I M r0 1))]) dX1_groupSum_7 (Nat.le_of_ble_eq_true rfl) rfl ?_
  exact sn1_groupSum_b9 cx  N _ _ _ _ _ _ _ hres
set_option maxRecDepth 20000 in
theorem mt1_groupSum {l : Launch} {v : Int32} {M M' : am_Mem} {N : Nat} {r0 : Nat} {r1 : Nat} {r2 : Nat} {x3 : Int32} (h : fn1_groupSum N M r0 r1 r2 x3 = some (v, M')) : am_Met l yX1_groupSum cX1_groupSum 6 (some .int) rm1_groupSum 0 0 [.inr (.inr (.inl r0)), .inr (.inr (.inl r1)), .inr (.inr (.inl r2)), .inl x3] M (some (.inl v)) M' := am_mk (by decide) (Nat.le_of_ble_eq_true rfl) (fun G cx => (sn1_groupSum_b0 cx h))
-- SquareCuts$LineTable.<init>
def fn2_init_b36   (M : am_Mem) : Option (Unit × am_Mem) :=
  some ((), M)
def fn2_init_b28  (r0 : Nat) (M : am_Mem) : Option (Unit × am_Mem) :=
  am_ck (am_k (am_new M 14 (80 : Int32).toNatClampNeg) r0 2) (fn2_init_b36   (am_wR (am_new M 14 (80 : Int32).toNatClampNeg) r0 3 (am_n M + 1)))
def fn2_init_b20  (r0 : Nat) (M : am_Mem) : Option (Unit × am_Mem) :=
  am_ck (am_k (am_new M 14 (80 : Int32).toNatClampNeg) r0 2) (fn2_init_b28  r0 (am_wR (am_new M 14 (80 : Int32).toNatClampNeg) r0 2 (am_n M + 1)))
def fn2_init_b12  (r0 : Nat) (M : am_Mem) : Option (Unit × am_Mem) :=
  am_ck (am_k (am_new M 14 (80 : Int32).toNatClampNeg) r0 2) (fn2_init_b20  r0 (am_wR (am_new M 14 (80 : Int32).toNatClampNeg) r0 1 (am_n M + 1)))
def fn2_init_b0  (r0 : Nat) (M : am_Mem) : Option (Unit × am_Mem) :=
  am_ck (am_k M r0 2) (am_ck (am_k (am_new M 14 (80 : Int32).toNatClampNeg) r0 2) (fn2_init_b12  r0 (am_wR (am_new M 14 (80 : Int32).toNatClampNeg) r0 0 (am_n M + 1))))
def fn2_init (M : am_Mem) (r0 : Nat) : Option (Unit × am_Mem) := fn2_init_b0  r0 M
def rm2_init : Room := { frames := 1, cells := 4, slots := 320, locals := 20 }
set_option maxRecDepth 20000 in
theorem sn2_init_b36 {l : Launch} {G : am_G} {M' : am_Mem}  (cx : am_Ctx l rm2_init yX2_init cX2_init 1 none none M' 4 320 G)   {M : am_Mem} (hres : fn2_init_b36   M = some ((), M')) : G 36 [] [] M 4 320 := by
  unfold fn2_init_b36 at hres
  obtain ⟨-, rfl⟩ := am_fin hres
  exact am_vret cx dX2_init_36
set_option maxRecDepth 20000 in
theorem sn2_init_b28 {l : Launch} {G : am_G} {M' : am_Mem}  (cx : am_Ctx l rm2_init yX2_init cX2_init 1 none none M' 4 320 G)  {r0 : Nat} {M : am_Mem} (hres : fn2_init_b28  r0 M = some ((), M')) : G 28 [(0, .inr (.inr (.inl r0)))] [] M 3 240 := by
  unfold fn2_init_b28 at hres
  refine am_aload_n cx 0 dX2_init_28 rfl ?_
  refine am_bipush cx (v := (80 : Int32)) dX2_init_29 (by decide) ?_
  refine am_newI cx 80 dX2_init_31 aw_1_90 (by decide) (Nat.le_of_ble_eq_true rfl) (Nat.le_of_ble_eq_true rfl) (Nat.le_of_ble_eq_true rfl) ?_
  obtain ⟨q1, hres⟩ := am_ck_some hres
  refine am_putR cx dX2_init_33 fpX2_21 (fun _ => rfl) (Or.inr ⟨_, rfl⟩) (am_ke q1) ?_
  refine am_sub cx [] rfl ?_
  exact sn2_init_b36 cx  hres
set_option maxRecDepth 20000 in
theorem sn2_init_b20 {l : Launch} {G : am_G} {M' : am_Mem}  (cx : am_Ctx l rm2_init yX2_init cX2_init 1 none none M' 4 320 G)  {r0 : Nat} {M : am_Mem} (hres : fn2_init_b20  r0 M = some ((), M')) : G 20 [(0, .inr (.inr (.inl r0)))] [] M 2 160 := by
  unfold fn2_init_b20 at hres
  refine am_aload_n cx 0 dX2_init_20 rfl ?_
  refine am_bipush cx (v := (80 : Int32)) dX2_init_21 (by decide) ?_
  refine am_newI cx 80 dX2_init_23 aw_1_90 (by decide) (Nat.le_of_ble_eq_true rfl) (Nat.le_of_ble_eq_true rfl) (Nat.le_of_ble_eq_true rfl) ?_
  obtain ⟨q1, hres⟩ := am_ck_some hres
  refine am_putR cx dX2_init_25 fpX2_18 (fun _ => rfl) (Or.inr ⟨_, rfl⟩) (am_ke q1) ?_
  exact sn2_init_b28 cx  hres
set_option maxRecDepth 20000 in
theorem sn2_init_b12 {l : Launch} {G : am_G} {M' : am_Mem}  (cx : am_Ctx l rm2_init yX2_init cX2_init 1 none none M' 4 320 G)  {r0 : Nat} {M : am_Mem} (hres : fn2_init_b12  r0 M = some ((), M')) : G 12 [(0, .inr (.inr (.inl r0)))] [] M 1 80 := by
  unfold fn2_init_b12 at hres
  refine am_aload_n cx 0 dX2_init_12 rfl ?_
  refine am_bipush cx (v := (80 : Int32)) dX2_init_13 (by decide) ?_
  refine am_newI cx 80 dX2_init_15 aw_1_90 (by decide) (Nat.le_of_ble_eq_true rfl) (Nat.le_of_ble_eq_true rfl) (Nat.le_of_ble_eq_true rfl) ?_
  obtain ⟨q1, hres⟩ := am_ck_some hres
  refine am_putR cx dX2_init_17 fpX2_15 (fun _ => rfl) (Or.inr ⟨_, rfl⟩) (am_ke q1) ?_
  exact sn2_init_b20 cx  hres
set_option maxRecDepth 20000 in
theorem sn2_init_b0 {l : Launch} {G : am_G} {M' : am_Mem}  (cx : am_Ctx l rm2_init yX2_init cX2_init 1 none none M' 4 320 G)  {r0 : Nat} {M : am_Mem} (hres : fn2_init_b0  r0 M = some ((), M')) : G 0 [(0, .inr (.inr (.inl r0)))] [] M 0 0 := by
  unfold fn2_init_b0 at hres
  refine am_aload_n cx 0 dX2_init_0 rfl ?_
  obtain ⟨q1, hres⟩ := am_ck_some hres
  refine am_objInit cx dX2_init_1 aw_1_209 aw_1_31 aw_1_32 (by rw [show am_K _ _ = 2 from (am_ke q1)]; decide) (Nat.le_of_ble_eq_true rfl) (Nat.le_of_ble_eq_true rfl) ?_
  refine am_aload_n cx 0 dX2_init_4 rfl ?_
  refine am_bipush cx (v := (80 : Int32)) dX2_init_5 (by decide) ?_
  refine am_newI cx 80 dX2_init_7 aw_1_90 (by decide) (Nat.le_of_ble_eq_true rfl) (Nat.le_of_ble_eq_true rfl) (Nat.le_of_ble_eq_true rfl) ?_
  obtain ⟨q2, hres⟩ := am_ck_some hres
  refine am_putR cx dX2_init_9 fpX2_11 (fun _ => rfl) (Or.inr ⟨_, rfl⟩) (am_ke q2) ?_
  exact sn2_init_b12 cx  hres
set_option maxRecDepth 20000 in
theorem mt2_init {l : Launch} {M M' : am_Mem} {r0 : Nat} (h : fn2_init M r0 = some ((), M')) : am_Met l yX2_init cX2_init 1 none rm2_init 4 320 [.inr (.inr (.inl r0))] M none M' := am_mk (by decide) (Nat.le_of_ble_eq_true rfl) (fun G cx => (sn2_init_b0 cx h))
-- SquareCuts$LineTable.copyRow
def fn2_copyRow_b0  (r0 : Nat) (x1 : Int32) (x2 : Int32) (M : am_Mem) : Option (Unit × am_Mem) :=
  am_ck (am_k M r0 2) (am_ck (am_k M (am_R M r0 0) 14) (am_ck (am_in x1 (am_L M (am_R M r0 0))) (am_ck (am_in x2 (am_L M (am_R M r0 0))) (am_ck (am_k M (am_R M r0 1) 14) (am_ck (am_in x1 (am_L M (am_R M r0 1))) (am_ck (am_in x2 (am_L M (am_R M r0 1))) (am_ck (am_k M (am_R M r0 2) 14) (am_ck (am_in x1 (am_L M (am_R M r0 2))) (am_ck (am_in x2 (am_L M (am_R M r0 2))) (am_ck (am_k M (am_R M r0 3) 14) (am_ck (am_in x1 (am_L M (am_R M r0 3))) (am_ck (am_in x2 (am_L M (am_R M r0 3))) (some ((), (am_wI (am_wI (am_wI (am_wI M (am_R M r0 0) x2.toNatClampNeg (am_I M (am_R M r0 0) x1.toNatClampNeg)) (am_R M r0 1) x2.toNatClampNeg (am_I (am_wI M (am_R M r0 0) x2.toNatClampNeg (am_I M (am_R M r0 0) x1.toNatClampNeg)) (am_R M r0 1) x1.toNatClampNeg)) (am_R M r0 2) x2.toNatClampNeg (am_I (am_wI (am_wI M (am_R M r0 0) x2.toNatClampNeg (am_I M (am_R M r0 0) x1.toNatClampNeg)) (am_R M r0 1) x2.toNatClampNeg (am_I (am_wI M (am_R M r0 0) x2.toNatClampNeg (am_I M (am_R M r0 0) x1.toNatClampNeg)) (am_R M r0 1) x1.toNatClampNeg)) (am_R M r0 2) x1.toNatClampNeg)) (am_R M r0 3) x2.toNatClampNeg (am_I (am_wI (am_wI (am_wI M (am_R M r0 0) x2.toNatClampNeg (am_I M (am_R M r0 0) x1.toNatClampNeg)) (am_R M r0 1) x2.toNatClampNeg (am_I (am_wI M (am_R M r0 0) x2.toNatClampNeg (am_I M (am_R M r0 0) x1.toNatClampNeg)) (am_R M r0 1) x1.toNatClampNeg)) (am_R M r0 2) x2.toNatClampNeg (am_I (am_wI (am_wI M (am_R M r0 0) x2.toNatClampNeg (am_I M (am_R M r0 0) x1.toNatClampNeg)) (am_R M r0 1) x2.toNatClampNeg (am_I (am_wI M (am_R M r0 0) x2.toNatClampNeg (am_I M (am_R M r0 0) x1.toNatClampNeg)) (am_R M r0 1) x1.toNatClampNeg)) (am_R M r0 2) x1.toNatClampNeg)) (am_R M r0 3) x1.toNatClampNeg))))))))))))))))
def fn2_copyRow (M : am_Mem) (r0 : Nat) (x1 : Int32) (x2 : Int32) : Option (Unit × am_Mem) := fn2_copyRow_b0  r0 x1 x2 M
def rm2_copyRow : Room := { frames := 0, cells := 0, slots := 0, locals := 0 }
set_option maxRecDepth 20000 in
theorem sn2_copyRow_b0 {l : Launch} {G : am_G} {M' : am_Mem}  (cx : am_Ctx l rm2_copyRow yX2_copyRow cX2_copyRow 3 none none M' 0 0 G)  {r0 : Nat} {x1 : Int32} {x2 : Int32} {M : am_Mem} (hres : fn2_copyRow_b0  r0 x1 x2 M = some ((), M')) : G 0 [(0, .inr (.inr (.inl r0))), (1, .inl x1), (2, .inl x2)] [] M 0 0 := by
  unfold fn2_copyRow_b0 at hres
  refine am_aload_n cx 0 dX2_copyRow_0 rfl ?_
  obtain ⟨q1, hres⟩ := am_ck_some hres
  refine am_getR cx dX2_copyRow_1 flX2_11 (am_ke q1) ?_
  refine am_iload_n cx 2 dX2_copyRow_4 rfl ?_
  refine am_aload_n cx 0 dX2_copyRow_5 rfl ?_
  refine am_getR cx dX2_copyRow_6 flX2_11 (am_ke q1) ?_
  refine am_iload_n cx 1 dX2_copyRow_9 rfl ?_
  obtain ⟨q2, hres⟩ := am_ck_some hres
  obtain ⟨q3, hres⟩ := am_ck_some hres
  refine am_iald cx dX2_copyRow_10 (am_ke q2) q3 ?_
  obtain ⟨q4, hres⟩ := am_ck_some hres
  refine am_iast cx dX2_copyRow_11 (am_ke q2) q4  ?_
  refine am_aload_n cx 0 dX2_copyRow_12 rfl ?_
  refine am_getR cx dX2_copyRow_13 flX2_15 (am_ke q1) ?_
  refine am_iload_n cx 2 dX2_copyRow_16 rfl ?_
  refine am_aload_n cx 0 dX2_copyRow_17 rfl ?_
  refine am_getR cx dX2_copyRow_18 flX2_15 (am_ke q1) ?_
  refine am_iload_n cx 1 dX2_copyRow_21 rfl ?_
  obtain ⟨q5, hres⟩ := am_ck_some hres
  obtain ⟨q6, hres⟩ := am_ck_some hres
  refine am_iald cx dX2_copyRow_22 (am_ke q5) q6 ?_
  obtain ⟨q7, hres⟩ := am_ck_some hres
  refine am_iast cx dX2_copyRow_23 (am_ke q5) q7  ?_
  refine am_aload_n cx 0 dX2_copyRow_24 rfl ?_
  refine am_getR cx dX2_copyRow_25 flX2_18 (am_ke q1) ?_
  refine am_iload_n cx 2 dX2_copyRow_28 rfl ?_
  refine am_aload_n cx 0 dX2_copyRow_29 rfl ?_
  refine am_getR cx dX2_copyRow_30 flX2_18 (am_ke q1) ?_
  refine am_iload_n cx 1 dX2_copyRow_33 rfl ?_
  obtain ⟨q8, hres⟩ := am_ck_some hres
  obtain ⟨q9, hres⟩ := am_ck_some hres
  refine am_iald cx dX2_copyRow_34 (am_ke q8) q9 ?_
  obtain ⟨q10, hres⟩ := am_ck_some hres
  refine am_iast cx dX2_copyRow_35 (am_ke q8) q10  ?_
  refine am_aload_n cx 0 dX2_copyRow_36 rfl ?_
  refine am_getR cx dX2_copyRow_37 flX2_21 (am_ke q1) ?_
  refine am_iload_n cx 2 dX2_copyRow_40 rfl ?_
  refine am_aload_n cx 0 dX2_copyRow_41 rfl ?_
  refine am_getR cx dX2_copyRow_42 flX2_21 (am_ke q1) ?_
  refine am_iload_n cx 1 dX2_copyRow_45 rfl ?_
  obtain ⟨q11, hres⟩ := am_ck_some hres
  obtain ⟨q12, hres⟩ := am_ck_some hres
  refine am_iald cx dX2_copyRow_46 (am_ke q11) q12 ?_
  obtain ⟨q13, hres⟩ := am_ck_some hres
  refine am_iast cx dX2_copyRow_47 (am_ke q11) q13  ?_
  obtain ⟨-, rfl⟩ := am_fin hres
  exact am_vret cx dX2_copyRow_48
set_option maxRecDepth 20000 in
theorem mt2_copyRow {l : Launch} {M M' : am_Mem} {r0 : Nat} {x1 : Int32} {x2 : Int32} (h : fn2_copyRow M r0 x1 x2 = some ((), M')) : am_Met l yX2_copyRow cX2_copyRow 3 none rm2_copyRow 0 0 [.inr (.inr (.inl r0)), .inl x1, .inl x2] M none M' := am_mk (by decide) (Nat.le_of_ble_eq_true rfl) (fun G cx => (sn2_copyRow_b0 cx h))
-- SquareCuts$LineTable.mergeSides
def fn2_mergeSides_b94 (N : Nat) (k4 : Nat → Int32 → Int32 → am_Mem → Option (Unit × am_Mem)) (r0 : Nat) (x1 : Int32) (x2 : Int32) (M : am_Mem) : Option (Unit × am_Mem) :=
  k4 r0 x1 (x2 + (1 : Int32)) M
def fn2_mergeSides_b85 (N : Nat) (k4 : Nat → Int32 → Int32 → am_Mem → Option (Unit × am_Mem)) (r0 : Nat) (x1 : Int32) (x2 : Int32) (M : am_Mem) : Option (Unit × am_Mem) :=
  am_ck (am_k M r0 2) (am_bd (fn2_copyRow M r0 x2 (x1 + (1 : Int32))) (fun v2 M3 => fn2_mergeSides_b94 N k4 r0 (x1 + (1 : Int32)) x2 M3))
def fn2_mergeSides_b4B (N : Nat) (k4 : Nat → Int32 → Int32 → am_Mem → Option (Unit × am_Mem)) (r0 : Nat) (x1 : Int32) (x2 : Int32) (M : am_Mem) : Option (Unit × am_Mem) :=
  am_ck (am_k M r0 2) (if (am_I M r0 4) ≤ x2 then some ((), (am_wI M r0 4 (x1 + (1 : Int32)))) else if x1 < 0 then fn2_mergeSides_b85 N k4 r0 x1 x2 M else am_ck (am_k M (am_R M r0 0) 14) (am_ck (am_in x2 (am_L M (am_R M r0 0))) (am_ck (am_in x1 (am_L M (am_R M r0 0))) (if (am_I M (am_R M r0 0) x2.toNatClampNeg) = (am_I M (am_R M r0 0) x1.toNatClampNeg) then am_ck (am_k M (am_R M r0 1) 14) (am_ck (am_in x2 (am_L M (am_R M r0 1))) (am_ck (am_k M (am_R M r0 2) 14) (am_ck (am_in x1 (am_L M (am_R M r0 2))) (if (am_I M (am_R M r0 2) x1.toNatClampNeg) < (am_I M (am_R M r0 1) x2.toNatClampNeg) then fn2_mergeSides_b85 N k4 r0 x1 x2 M else am_ck (am_in x1 (am_L M (am_R M r0 2))) (am_ck (am_in x2 (am_L M (am_R M r0 2))) (am_ck (am_in x1 (am_L M (am_R M r0 2))) (am_ck (am_k M (am_R M r0 3) 14) (am_ck (am_in x1 (am_L M (am_R M r0 3))) (am_ck (am_in x2 (am_L M (am_R M r0 3))) (am_ck (am_in x1 (am_L M (am_R M r0 3))) (fn2_mergeSides_b94 N k4 r0 x1 x2 (am_wI (am_wI M (am_R M r0 2) x1.toNatClampNeg (if (am_I M (am_R M r0 2) x1.toNatClampNeg) < (am_I M (am_R M r0 2) x2.toNatClampNeg) then (am_I M (am_R M r0 2) x2.toNatClampNeg) else (am_I M (am_R M r0 2) x1.toNatClampNeg))) (am_R M r0 3) x1.toNatClampNeg ((am_I (am_wI M (am_R M r0 2) x1.toNatClampNeg (if (am_I M (am_R M r0 2) x1.toNatClampNeg) < (am_I M (am_R M r0 2) x2.toNatClampNeg) then (am_I M (am_R M r0 2) x2.toNatClampNeg) else (am_I M (am_R M r0 2) x1.toNatClampNeg))) (am_R M r0 3) x1.toNatClampNeg) + (am_I (am_wI M (am_R M r0 2) x1.toNatClampNeg (if (am_I M (am_R M r0 2) x1.toNatClampNeg) < (am_I M (am_R M r0 2) x2.toNatClampNeg) then (am_I M (am_R M r0 2) x2.toNatClampNeg) else (am_I M (am_R M r0 2) x1.toNatClampNeg))) (am_R M r0 3) x2.toNatClampNeg)))))))))))))) else fn2_mergeSides_b85 N k4 r0 x1 x2 M))))
def fn2_mergeSides_b4 (N : Nat)  : Nat → Nat → Int32 → Int32 → am_Mem → Option (Unit × am_Mem)
  | 0 => fun _ _ _ _ => none
  | i + 1 => fn2_mergeSides_b4B N (fn2_mergeSides_b4 N  i)
def fn2_mergeSides_b0 (N : Nat)  (r0 : Nat) (M : am_Mem) : Option (Unit × am_Mem) :=
  fn2_mergeSides_b4 N  N r0 (-1 : Int32) (0 : Int32) M
def fn2_mergeSides (N : Nat) (M : am_Mem) (r0 : Nat) : Option (Unit × am_Mem) := fn2_mergeSides_b0 N r0 M
def rm2_mergeSides : Room := { frames := 1, cells := 0, slots := 0, locals := 22 }
set_option maxRecDepth 20000 in
theorem sn2_mergeSides_b94 {l : Launch} {G : am_G} {M' : am_Mem} {N : Nat} {k4 : Nat → Int32 → Int32 → am_Mem → Option (Unit × am_Mem)} (cx : am_Ctx l rm2_mergeSides yX2_mergeSides cX2_mergeSides 3 none none M' 0 0 G) (hk4 : ∀ (r0 : Nat) (x1 : Int32) (x2 : Int32) (M : am_Mem), k4 r0 x1 x2 M = some ((), M') → G 4 [(0, .inr (.inr (.inl r0))), (1, .inl x1), (2, .inl x2)] [] M 0 0) {r0 : Nat} {x1 : Int32} {x2 : Int32} {M : am_Mem} (hres : fn2_mergeSides_b94 N k4 r0 x1 x2 M = some ((), M')) : G 94 [(0, .inr (.inr (.inl r0))), (1, .inl x1), (2, .inl x2)] [] M 0 0 := by
  unfold fn2_mergeSides_b94 at hres
  refine am_iincw cx (lv' := [(0, .inr (.inr (.inl r0))), (1, .inl x1), (2, .inl (x2 + (1 : Int32)))]) (w := (1 : Int32)) 2 dX2_mergeSides_94 (by decide) rfl (Nat.le_of_ble_eq_true rfl) rfl ?_
  refine am_goto cx (tgt := 4) dX2_mergeSides_97 (by decide) ?_
  exact hk4 _ _ _ _ hres
set_option maxRecDepth 20000 in
theorem sn2_mergeSides_b85 {l : Launch} {G : am_G} {M' : am_Mem} {N : Nat} {k4 : Nat → Int32 → Int32 → am_Mem → Option (Unit × am_Mem)} (cx : am_Ctx l rm2_mergeSides yX2_mergeSides cX2_mergeSides 3 none none M' 0 0 G) (hk4 : ∀ (r0 : Nat) (x1 : Int32) (x2 : Int32) (M : am_Mem), k4 r0 x1 x2 M = some ((), M') → G 4 [(0, .inr (.inr (.inl r0))), (1, .inl x1), (2, .inl x2)] [] M 0 0) {r0 : Nat} {x1 : Int32} {x2 : Int32} {M : am_Mem} (hres : fn2_mergeSides_b85 N k4 r0 x1 x2 M = some ((), M')) : G 85 [(0, .inr (.inr (.inl r0))), (1, .inl x1), (2, .inl x2)] [] M 0 0 := by
  unfold fn2_mergeSides_b85 at hres
  refine am_iincw cx (lv' := [(0, .inr (.inr (.inl r0))), (1, .inl (x1 + (1 : Int32))), (2, .inl x2)]) (w := (1 : Int32)) 1 dX2_mergeSides_85 (by decide) rfl (Nat.le_of_ble_eq_true rfl) rfl ?_
  refine am_aload_n cx 0 dX2_mergeSides_88 rfl ?_
  refine am_iload_n cx 2 dX2_mergeSides_89 rfl ?_
  refine am_iload_n cx 1 dX2_mergeSides_90 rfl ?_
  obtain ⟨q1, hres⟩ := am_ck_some hres
  obtain ⟨v2, M3, q4, hres⟩ := am_bd_some hres
  refine am_callV0 cx [.inl x2, .inl (x1 + (1 : Int32))] dX2_mergeSides_91 cvX2_57 (mt2_copyRow q4) (am_ke q1) ⟨rfl, rfl, Nat.le_of_ble_eq_true rfl, Nat.le_of_ble_eq_true rfl⟩ rfl (Nat.le_of_ble_eq_true rfl) ⟨Nat.le_of_ble_eq_true rfl, Nat.le_of_ble_eq_true rfl⟩ ?_
  exact sn2_mergeSides_b94 cx hk4 hres
set_option maxRecDepth 20000 in
theorem sn2_mergeSides_b4B {l : Launch} {G : am_G} {M' : am_Mem} {N : Nat} {k4 : Nat → Int32 → Int32 → am_Mem → Option (Unit × am_Mem)} (cx : am_Ctx l rm2_mergeSides yX2_mergeSides cX2_mergeSides 3 none none M' 0 0 G) (hk4 : ∀ (r0 : Nat) (x1 : Int32) (x2 : Int32) (M : am_Mem), k4 r0 x1 x2 M = some ((), M') → G 4 [(0, .inr (.inr (.inl r0))), (1, .inl x1), (2, .inl x2)] [] M 0 0) {r0 : Nat} {x1 : Int32} {x2 : Int32} {M : am_Mem} (hres : fn2_mergeSides_b4B N k4 r0 x1 x2 M = some ((), M')) : G 4 [(0, .inr (.inr (.inl r0))), (1, .inl x1), (2, .inl x2)] [] M 0 0 := by
  unfold fn2_mergeSides_b4B at hres
  refine am_iload_n cx 2 dX2_mergeSides_4 rfl ?_
  refine am_aload_n cx 0 dX2_mergeSides_5 rfl ?_
  obtain ⟨q1, hres⟩ := am_ck_some hres
  refine am_getI cx dX2_mergeSides_6 flX2_28 (am_ke q1) ?_
  refine am_icmp_ge cx (tgt := 100) dX2_mergeSides_9 (by decide) (fun h => ?_) (fun h => ?_)
  · have hres := am_ifp h hres
    refine am_aload_n cx 0 dX2_mergeSides_100 rfl ?_
    refine am_iload_n cx 1 dX2_mergeSides_101 rfl ?_
    refine am_iconst cx (v := (1 : Int32)) dX2_mergeSides_102 (by decide) ?_
    refine am_iadd cx dX2_mergeSides_103 ?_
    refine am_putI cx dX2_mergeSides_104 fpX2_28 (fun h => by cases h) (am_ke q1) ?_
    obtain ⟨-, rfl⟩ := am_fin hres
    exact am_vret cx dX2_mergeSides_107
  · have hres := am_ifn h hres
    refine am_iload_n cx 1 dX2_mergeSides_12 rfl ?_
    refine am_if_lt cx (tgt := 85) dX2_mergeSides_13 (by decide) (fun h => ?_) (fun h => ?_)
    · have hres := am_ifp h hres
      exact sn2_mergeSides_b85 cx hk4 hres
    · have hres := am_ifn h hres
      refine am_aload_n cx 0 dX2_mergeSides_16 rfl ?_
      refine am_getR cx dX2_mergeSides_17 flX2_11 (am_ke q1) ?_
      refine am_iload_n cx 2 dX2_mergeSides_20 rfl ?_
      obtain ⟨q2, hres⟩ := am_ck_some hres
      obtain ⟨q3, hres⟩ := am_ck_some hres
      refine am_iald cx dX2_mergeSides_21 (am_ke q2) q3 ?_
      refine am_aload_n cx 0 dX2_mergeSides_22 rfl ?_
      refine am_getR cx dX2_mergeSides_23 flX2_11 (am_ke q1) ?_
      refine am_iload_n cx 1 dX2_mergeSides_26 rfl ?_
      obtain ⟨q4, hres⟩ := am_ck_some hres
      refine am_iald cx dX2_mergeSides_27 (am_ke q2) q4 ?_
      refine am_icmp_ne cx (tgt := 85) dX2_mergeSides_28 (by decide) (fun h => ?_) (fun h => ?_)
      · have hres := am_ifn h hres
        exact sn2_mergeSides_b85 cx hk4 hres
      · have hres := am_ifp h hres
        refine am_aload_n cx 0 dX2_mergeSides_31 rfl ?_
        refine am_getR cx dX2_mergeSides_32 flX2_15 (am_ke q1) ?_
        refine am_iload_n cx 2 dX2_mergeSides_35 rfl ?_
        obtain ⟨q5, hres⟩ := am_ck_some hres
        obtain ⟨q6, hres⟩ := am_ck_some hres
        refine am_iald cx dX2_mergeSides_36 (am_ke q5) q6 ?_
        refine am_aload_n cx 0 dX2_mergeSides_37 rfl ?_
        refine am_getR cx dX2_mergeSides_38 flX2_18 (am_ke q1) ?_
        refine am_iload_n cx 1 dX2_mergeSides_41 rfl ?_
        obtain ⟨q7, hres⟩ := am_ck_some hres
        obtain ⟨q8, hres⟩ := am_ck_some hres
        refine am_iald cx dX2_mergeSides_42 (am_ke q7) q8 ?_
        refine am_icmp_gt cx (tgt := 85) dX2_mergeSides_43 (by decide) (fun h => ?_) (fun h => ?_)
        · have hres := am_ifp h hres
          exact sn2_mergeSides_b85 cx hk4 hres
        · have hres := am_ifn h hres
          refine am_aload_n cx 0 dX2_mergeSides_46 rfl ?_
          refine am_getR cx dX2_mergeSides_47 flX2_18 (am_ke q1) ?_
          refine am_iload_n cx 1 dX2_mergeSides_50 rfl ?_
          refine am_aload_n cx 0 dX2_mergeSides_51 rfl ?_
          refine am_getR cx dX2_mergeSides_52 flX2_18 (am_ke q1) ?_
          refine am_iload_n cx 1 dX2_mergeSides_55 rfl ?_
          obtain ⟨q9, hres⟩ := am_ck_some hres
          refine am_iald cx dX2_mergeSides_56 (am_ke q7) q9 ?_
          refine am_aload_n cx 0 dX2_mergeSides_57 rfl ?_
          refine am_getR cx dX2_mergeSides_58 flX2_18 (am_ke q1) ?_
          refine am_iload_n cx 2 dX2_mergeSides_61 rfl ?_
          obtain ⟨q10, hres⟩ := am_ck_some hres
          refine am_iald cx dX2_mergeSides_62 (am_ke q7) q10 ?_
          refine am_mmax cx dX2_mergeSides_63 aw_4_37 aw_3_28 aw_1_12 aw_3_29 (Nat.le_of_ble_eq_true rfl) (Nat.le_of_ble_eq_true rfl) (Nat.le_of_ble_eq_true rfl) (Nat.le_of_ble_eq_true rfl) ?_
          obtain ⟨q11, hres⟩ := am_ck_some hres
          refine am_iast cx dX2_mergeSides_66 (am_ke q7) q11  ?_
          refine am_aload_n cx 0 dX2_mergeSides_67 rfl ?_
          refine am_getR cx dX2_mergeSides_68 flX2_21 (am_ke q1) ?_
          refine am_iload_n cx 1 dX2_mergeSides_71 rfl ?_
          refine am_dup2 cx dX2_mergeSides_72 rfl rfl ?_
          obtain ⟨q12, hres⟩ := am_ck_some hres
          obtain ⟨q13, hres⟩ := am_ck_some hres
          refine am_iald cx dX2_mergeSides_73 (am_ke q12) q13 ?_
          refine am_aload_n cx 0 dX2_mergeSides_74 rfl ?_
          refine am_getR cx dX2_mergeSides_75 flX2_21 (am_ke q1) ?_
          refine am_iload_n cx 2 dX2_mergeSides_78 rfl ?_
          obtain ⟨q14, hres⟩ := am_ck_some hres
          refine am_iald cx dX2_mergeSides_79 (am_ke q12) q14 ?_
          refine am_iadd cx dX2_mergeSides_80 ?_
          obtain ⟨q15, hres⟩ := am_ck_some hres
          refine am_iast cx dX2_mergeSides_81 (am_ke q12) q15  ?_
          refine am_goto cx (tgt := 94) dX2_mergeSides_82 (by decide) ?_
          exact sn2_mergeSides_b94 cx hk4 hres
set_option maxRecDepth 20000 in
theorem sn2_mergeSides_b4 {l : Launch} {G : am_G} {M' : am_Mem} {N : Nat}  (cx : am_Ctx l rm2_mergeSides yX2_mergeSides cX2_mergeSides 3 none none M' 0 0 G)  (i : Nat) : ∀ (r0 : Nat) (x1 : Int32) (x2 : Int32) (M : am_Mem), fn2_mergeSides_b4 N  i r0 x1 x2 M = some ((), M') → G 4 [(0, .inr (.inr (.inl r0))), (1, .inl x1), (2, .inl x2)] [] M 0 0 := by
  induction i with
  | zero => intro r0 x1 x2 M hres; exact am_no hres
  | succ i ih => intro r0 x1 x2 M hres; exact sn2_mergeSides_b4B cx ih hres
set_option maxRecDepth 20000 in
theorem sn2_mergeSides_b0 {l : Launch} {G : am_G} {M' : am_Mem} {N : Nat}  (cx : am_Ctx l rm2_mergeSides yX2_mergeSides cX2_mergeSides 3 none none M' 0 0 G)  {r0 : Nat} {M : am_Mem} (hres : fn2_mergeSides_b0 N  r0 M = some ((), M')) : G 0 [(0, .inr (.inr (.inl r0)))] [] M 0 0 := by
  unfold fn2_mergeSides_b0 at hres
  refine am_iconst cx (v := (-1 : Int32)) dX2_mergeSides_0 (by decide) ?_
  refine am_istore_n cx (lv' := [(0, .inr (.inr (.inl r0))), (1, .inl (-1 : Int32))]) dX2_mergeSides_1 (Nat.le_of_ble_eq_true rfl) rfl ?_
  refine am_iconst cx (v := (0 : Int32)) dX2_mergeSides_2 (by decide) ?_
  refine am_istore_n cx (lv' := [(0, .inr (.inr (.inl r0))), (1, .inl (-1 : Int32)), (2, .inl (0 : Int32))]) dX2_mergeSides_3 (Nat.le_of_ble_eq_true rfl) rfl ?_
  exact sn2_mergeSides_b4 cx  N _ _ _ _ hres
set_option maxRecDepth 20000 in
theorem mt2_mergeSides {l : Launch} {M M' : am_Mem} {N : Nat} {r0 : Nat} (h : fn2_mergeSides N M r0 = some ((), M')) : am_Met l yX2_mergeSides cX2_mergeSides 3 none rm2_mergeSides 0 0 [.inr (.inr (.inl r0))] M none M' := am_mk (by decide) (Nat.le_of_ble_eq_true rfl) (fun G cx => (sn2_mergeSides_b0 cx h))
-- SquareCuts$LineTable.rowOf
def fn2_rowOf_b42 (N : Nat) (k2 : Nat → Int32 → Int32 → Int32 → am_Mem → Option (Int32 × am_Mem)) (r0 : Nat) (x1 : Int32) (x2 : Int32) (x3 : Int32) (M : am_Mem) : Option (Int32 × am_Mem) :=
  k2 r0 x1 x2 (x3 + (1 : Int32)) M
def fn2_rowOf_b2B (N : Nat) (k2 : Nat → Int32 → Int32 → Int32 → am_Mem → Option (Int32 × am_Mem)) (r0 : Nat) (x1 : Int32) (x2 : Int32) (x3 : Int32) (M : am_Mem) : Option (Int32 × am_Mem) :=
  am_ck (am_k M r0 2) (if (am_I M r0 4) ≤ x3 then some ((-1 : Int32), M) else am_ck (am_k M (am_R M r0 0) 14) (am_ck (am_in x3 (am_L M (am_R M r0 0))) (if (am_I M (am_R M r0 0) x3.toNatClampNeg) = x1 then am_ck (am_k M (am_R M r0 1) 14) (am_ck (am_in x3 (am_L M (am_R M r0 1))) (if x2 < (am_I M (am_R M r0 1) x3.toNatClampNeg) then fn2_rowOf_b42 N k2 r0 x1 x2 x3 M else am_ck (am_k M (am_R M r0 2) 14) (am_ck (am_in x3 (am_L M (am_R M r0 2))) (if (am_I M (am_R M r0 2) x3.toNatClampNeg) ≤ x2 then fn2_rowOf_b42 N k2 r0 x1 x2 x3 M else some (x3, M))))) else fn2_rowOf_b42 N k2 r0 x1 x2 x3 M)))
def fn2_rowOf_b2 (N : Nat)  : Nat → Nat → Int32 → Int32 → Int32 → am_Mem → Option (Int32 × am_Mem)
  | 0 => fun _ _ _ _ _ => none
  | i + 1 => fn2_rowOf_b2B N (fn2_rowOf_b2 N  i)
def fn2_rowOf_b0 (N : Nat)  (r0 : Nat) (x1 : Int32) (x2 : Int32) (M : am_Mem) : Option (Int32 × am_Mem) :=
  fn2_rowOf_b2 N  N r0 x1 x2 (0 : Int32) M
def fn2_rowOf (N : Nat) (M : am_Mem) (r0 : Nat) (x1 : Int32) (x2 : Int32) : Option (Int32 × am_Mem) := fn2_rowOf_b0 N r0 x1 x2 M
def rm2_rowOf : Room := { frames := 0, cells := 0, slots := 0, locals := 0 }
set_option maxRecDepth 20000 in
theorem sn2_rowOf_b42 {l : Launch} {G : am_G} {v : Int32} {M' : am_Mem} {N : Nat} {k2 : Nat → Int32 → Int32 → Int32 → am_Mem → Option (Int32 × am_Mem)} (cx : am_Ctx l rm2_rowOf yX2_rowOf cX2_rowOf 4 (some .int) (some (.inl v)) M' 0 0 G) (hk2 : ∀ (r0 : Nat) (x1 : Int32) (x2 : Int32) (x3 : Int32) (M : am_Mem), k2 r0 x1 x2 x3 M = some (v, M') → G 2 [(0, .inr (.inr (.inl r0))), (1, .inl x1), (2, .inl x2), (3, .inl x3)] [] M 0 0) {r0 : Nat} {x1 : Int32} {x2 : Int32} {x3 : Int32} {M : am_Mem} (hres : fn2_rowOf_b42 N k2 r0 x1 x2 x3 M = some (v, M')) : G 42 [(0, .inr (.inr (.inl r0))), (1, .inl x1), (2, .inl x2), (3, .inl x3)] [] M 0 0 := by
  unfold fn2_rowOf_b42 at hres
  refine am_iincw cx (lv' := [(0, .inr (.inr (.inl r0))), (1, .inl x1), (2, .inl x2), (3, .inl (x3 + (1 : Int32)))]) (w := (1 : Int32)) 3 dX2_rowOf_42 (by decide) rfl (Nat.le_of_ble_eq_true rfl) rfl ?_
  refine am_goto cx (tgt := 2) dX2_rowOf_45 (by decide) ?_
  exact hk2 _ _ _ _ _ hres
set_option maxRecDepth 20000 in
theorem sn2_rowOf_b2B {l : Launch} {G : am_G} {v : Int32} {M' : am_Mem} {N : Nat} {k2 : Nat → Int32 → Int32 → Int32 → am_Mem → Option (Int32 × am_Mem)} (cx : am_Ctx l rm2_rowOf yX2_rowOf cX2_rowOf 4 (some .int) (some (.inl v)) M' 0 0 G) (hk2 : ∀ (r0 : Nat) (x1 : Int32) (x2 : Int32) (x3 : Int32) (M : am_Mem), k2 r0 x1 x2 x3 M = some (v, M') → G 2 [(0, .inr (.inr (.inl r0))), (1, .inl x1), (2, .inl x2), (3, .inl x3)] [] M 0 0) {r0 : Nat} {x1 : Int32} {x2 : Int32} {x3 : Int32} {M : am_Mem} (hres : fn2_rowOf_b2B N k2 r0 x1 x2 x3 M = some (v, M')) : G 2 [(0, .inr (.inr (.inl r0))), (1, .inl x1), (2, .inl x2), (3, .inl x3)] [] M 0 0 := by
  unfold fn2_rowOf_b2B at hres
  refine am_iload_n cx 3 dX2_rowOf_2 rfl ?_
  refine am_aload_n cx 0 dX2_rowOf_3 rfl ?_
  obtain ⟨q1, hres⟩ := am_ck_some hres
  refine am_getI cx dX2_rowOf_4 flX2_28 (am_ke q1) ?_
  refine am_icmp_ge cx (tgt := 48) dX2_rowOf_7 (by decide) (fun h => ?_) (fun h => ?_)
  · have hres := am_ifp h hres
    refine am_iconst cx (v := (-1 : Int32)) dX2_rowOf_48 (by decide) ?_
    obtain ⟨rfl, rfl⟩ := am_fin hres
    exact am_iret cx dX2_rowOf_49
  · have hres := am_ifn h hres
    refine am_aload_n cx 0 dX2_rowOf_10 rfl ?_
    refine am_getR cx dX2_rowOf_11 flX2_11 (am_ke q1) ?_
    refine am_iload_n cx 3 dX2_rowOf_14 rfl ?_
    obtain ⟨q2, hres⟩ := am_ck_some hres
    obtain ⟨q3, hres⟩ := am_ck_some hres
    refine am_iald cx dX2_rowOf_15 (am_ke q2) q3 ?_
    refine am_iload_n cx 1 dX2_rowOf_16 rfl ?_
    refine am_icmp_ne cx (tgt := 42) dX2_rowOf_17 (by decide) (fun h => ?_) (fun h => ?_)
    · have hres := am_ifn h hres
      exact sn2_rowOf_b42 cx hk2 hres
    · have hres := am_ifp h hres
      refine am_aload_n cx 0 dX2_rowOf_20 rfl ?_
      refine am_getR cx dX2_rowOf_21 flX2_15 (am_ke q1) ?_
      refine am_iload_n cx 3 dX2_rowOf_24 rfl ?_
      obtain ⟨q4, hres⟩ := am_ck_some hres
      obtain ⟨q5, hres⟩ := am_ck_some hres
      refine am_iald cx dX2_rowOf_25 (am_ke q4) q5 ?_
      refine am_iload_n cx 2 dX2_rowOf_26 rfl ?_
      refine am_icmp_gt cx (tgt := 42) dX2_rowOf_27 (by decide) (fun h => ?_) (fun h => ?_)
      · have hres := am_ifp h hres
        exact sn2_rowOf_b42 cx hk2 hres
      · have hres := am_ifn h hres
        refine am_iload_n cx 2 dX2_rowOf_30 rfl ?_
        refine am_aload_n cx 0 dX2_rowOf_31 rfl ?_
        refine am_getR cx dX2_rowOf_32 flX2_18 (am_ke q1) ?_
        refine am_iload_n cx 3 dX2_rowOf_35 rfl ?_
        obtain ⟨q6, hres⟩ := am_ck_some hres
        obtain ⟨q7, hres⟩ := am_ck_some hres
        refine am_iald cx dX2_rowOf_36 (am_ke q6) q7 ?_
        refine am_icmp_ge cx (tgt := 42) dX2_rowOf_37 (by decide) (fun h => ?_) (fun h => ?_)
        · have hres := am_ifp h hres
          exact sn2_rowOf_b42 cx hk2 hres
        · have hres := am_ifn h hres
          refine am_iload_n cx 3 dX2_rowOf_40 rfl ?_
          obtain ⟨rfl, rfl⟩ := am_fin hres
          exact am_iret cx dX2_rowOf_41
set_option maxRecDepth 20000 in
theorem sn2_rowOf_b2 {l : Launch} {G : am_G} {v : Int32} {M' : am_Mem} {N : Nat}  (cx : am_Ctx l rm2_rowOf yX2_rowOf cX2_rowOf 4 (some .int) (some (.inl v)) M' 0 0 G)  (i : Nat) : ∀ (r0 : Nat) (x1 : Int32) (x2 : Int32) (x3 : Int32) (M : am_Mem), fn2_rowOf_b2 N  i r0 x1 x2 x3 M = some (v, M') → G 2 [(0, .inr (.inr (.inl r0))), (1, .inl x1), (2, .inl x2), (3, .inl x3)] [] M 0 0 := by
  induction i with
  | zero => intro r0 x1 x2 x3 M hres; exact am_no hres
  | succ i ih => intro r0 x1 x2 x3 M hres; exact sn2_rowOf_b2B cx ih hres
set_option maxRecDepth 20000 in
theorem sn2_rowOf_b0 {l : Launch} {G : am_G} {v : Int32} {M' : am_Mem} {N : Nat}  (cx : am_Ctx l rm2_rowOf yX2_rowOf cX2_rowOf 4 (some .int) (some (.inl v)) M' 0 0 G)  {r0 : Nat} {x1 : Int32} {x2 : Int32} {M : am_Mem} (hres : fn2_rowOf_b0 N  r0 x1 x2 M = some (v, M')) : G 0 [(0, .inr (.inr (.inl r0))), (1, .inl x1), (2, .inl x2)] [] M 0 0 := by
  unfold fn2_rowOf_b0 at hres
  refine am_iconst cx (v := (0 : Int32)) dX2_rowOf_0 (by decide) ?_
  refine am_istore_n cx (lv' := [(0, .inr (.inr (.inl r0))), (1, .inl x1), (2, .inl x2), (3, .inl (0 : Int32))]) dX2_rowOf_1 (Nat.le_of_ble_eq_true rfl) rfl ?_
  exact sn2_rowOf_b2 cx  N _ _ _ _ _ hres
set_option maxRecDepth 20000 in
theorem mt2_rowOf {l : Launch} {v : Int32} {M M' : am_Mem} {N : Nat} {r0 : Nat} {x1 : Int32} {x2 : Int32} (h : fn2_rowOf N M r0 x1 x2 = some (v, M')) : am_Met l yX2_rowOf cX2_rowOf 4 (some .int) rm2_rowOf 0 0 [.inr (.inr (.inl r0)), .inl x1, .inl x2] M (some (.inl v)) M' := am_mk (by decide) (Nat.le_of_ble_eq_true rfl) (fun G cx => (sn2_rowOf_b0 cx h))
-- SquareCuts$Net.<init>
def fn3_init_b28   (M : am_Mem) : Option (Unit × am_Mem) :=
  some ((), M)
def fn3_init_b21  (r0 : Nat) (x2 : Int32) (M : am_Mem) : Option (Unit × am_Mem) :=
  am_ck (am_cnt x2 14) (am_ck (am_k (am_new M 14 x2.toNatClampNeg) r0 3) (fn3_init_b28   (am_wR (am_new M 14 x2.toNatClampNeg) r0 3 (am_n M + 1))))
def fn3_init_b14  (r0 : Nat) (x1 : Int32) (x2 : Int32) (M : am_Mem) : Option (Unit × am_Mem) :=
  am_ck (am_cnt x1 14) (am_ck (am_k (am_new M 14 x1.toNatClampNeg) r0 3) (fn3_init_b21  r0 x2 (am_wR (am_new M 14 x1.toNatClampNeg) r0 2 (am_n M + 1))))
def fn3_init_b9  (r0 : Nat) (x1 : Int32) (x2 : Int32) (M : am_Mem) : Option (Unit × am_Mem) :=
  am_ck (am_k M r0 3) (fn3_init_b14  r0 x1 x2 (am_wI M r0 1 x2))
def fn3_init_b0  (r0 : Nat) (x1 : Int32) (x2 : Int32) (M : am_Mem) : Option (Unit × am_Mem) :=
  am_ck (am_k M r0 3) (fn3_init_b9  r0 x1 x2 (am_wI M r0 0 x1))
def fn3_init (M : am_Mem) (r0 : Nat) (x1 : Int32) (x2 : Int32) : Option (Unit × am_Mem) := fn3_init_b0  r0 x1 x2 M
def rm3_init : Room := { frames := 1, cells := 2, slots := 28, locals := 20 }
set_option maxRecDepth 20000 in
theorem sn3_init_b28 {l : Launch} {G : am_G} {M' : am_Mem}  (cx : am_Ctx l rm3_init yX3_init cX3_init 3 none none M' 2 28 G)   {M : am_Mem} (hres : fn3_init_b28   M = some ((), M')) : G 28 [] [] M 2 28 := by
  unfold fn3_init_b28 at hres
  obtain ⟨-, rfl⟩ := am_fin hres
  exact am_vret cx dX3_init_28
set_option maxRecDepth 20000 in
theorem sn3_init_b21 {l : Launch} {G : am_G} {M' : am_Mem}  (cx : am_Ctx l rm3_init yX3_init cX3_init 3 none none M' 2 28 G)  {r0 : Nat} {x2 : Int32} {M : am_Mem} (hres : fn3_init_b21  r0 x2 M = some ((), M')) : G 21 [(0, .inr (.inr (.inl r0))), (2, .inl x2)] [] M 1 14 := by
  unfold fn3_init_b21 at hres
  refine am_aload_n cx 0 dX3_init_21 rfl ?_
  refine am_iload_n cx 1 dX3_init_22 rfl ?_
  obtain ⟨q1, hres⟩ := am_ck_some hres
  refine am_newI cx 14 dX3_init_23 aw_1_90 q1 (Nat.le_of_ble_eq_true rfl) (Nat.le_of_ble_eq_true rfl) (Nat.le_of_ble_eq_true rfl) ?_
  obtain ⟨q2, hres⟩ := am_ck_some hres
  refine am_putR cx dX3_init_25 fpX3_20 (fun _ => rfl) (Or.inr ⟨_, rfl⟩) (am_ke q2) ?_
  refine am_sub cx [] rfl ?_
  exact sn3_init_b28 cx  hres
set_option maxRecDepth 20000 in
theorem sn3_init_b14 {l : Launch} {G : am_G} {M' : am_Mem}  (cx : am_Ctx l rm3_init yX3_init cX3_init 3 none none M' 2 28 G)  {r0 : Nat} {x1 : Int32} {x2 : Int32} {M : am_Mem} (hres : fn3_init_b14  r0 x1 x2 M = some ((), M')) : G 14 [(0, .inr (.inr (.inl r0))), (1, .inl x1), (2, .inl x2)] [] M 0 0 := by
  unfold fn3_init_b14 at hres
  refine am_aload_n cx 0 dX3_init_14 rfl ?_
  refine am_iload_n cx 1 dX3_init_15 rfl ?_
  obtain ⟨q1, hres⟩ := am_ck_some hres
  refine am_newI cx 14 dX3_init_16 aw_1_90 q1 (Nat.le_of_ble_eq_true rfl) (Nat.le_of_ble_eq_true rfl) (Nat.le_of_ble_eq_true rfl) ?_
  obtain ⟨q2, hres⟩ := am_ck_some hres
  refine am_putR cx dX3_init_18 fpX3_16 (fun _ => rfl) (Or.inr ⟨_, rfl⟩) (am_ke q2) ?_
  refine am_sub cx [0, 2] rfl ?_
  exact sn3_init_b21 cx  hres
set_option maxRecDepth 20000 in
theorem sn3_init_b9 {l : Launch} {G : am_G} {M' : am_Mem}  (cx : am_Ctx l rm3_init yX3_init cX3_init 3 none none M' 2 28 G)  {r0 : Nat} {x1 : Int32} {x2 : Int32} {M : am_Mem} (hres : fn3_init_b9  r0 x1 x2 M = some ((), M')) : G 9 [(0, .inr (.inr (.inl r0))), (1, .inl x1), (2, .inl x2)] [] M 0 0 := by
  unfold fn3_init_b9 at hres
  refine am_aload_n cx 0 dX3_init_9 rfl ?_
  refine am_iload_n cx 2 dX3_init_10 rfl ?_
  obtain ⟨q1, hres⟩ := am_ck_some hres
  refine am_putI cx dX3_init_11 fpX3_13 (fun _ => rfl) (am_ke q1) ?_
  exact sn3_init_b14 cx  hres
set_option maxRecDepth 20000 in
theorem sn3_init_b0 {l : Launch} {G : am_G} {M' : am_Mem}  (cx : am_Ctx l rm3_init yX3_init cX3_init 3 none none M' 2 28 G)  {r0 : Nat} {x1 : Int32} {x2 : Int32} {M : am_Mem} (hres : fn3_init_b0  r0 x1 x2 M = some ((), M')) : G 0 [(0, .inr (.inr (.inl r0))), (1, .inl x1), (2, .inl x2)] [] M 0 0 := by
  unfold fn3_init_b0 at hres
  refine am_aload_n cx 0 dX3_init_0 rfl ?_
  obtain ⟨q1, hres⟩ := am_ck_some hres
  refine am_objInit cx dX3_init_1 aw_3_35 aw_1_31 aw_1_32 (by rw [show am_K _ _ = 3 from (am_ke q1)]; decide) (Nat.le_of_ble_eq_true rfl) (Nat.le_of_ble_eq_true rfl) ?_
  refine am_aload_n cx 0 dX3_init_4 rfl ?_
  refine am_iload_n cx 1 dX3_init_5 rfl ?_
  refine am_putI cx dX3_init_6 fpX3_7 (fun _ => rfl) (am_ke q1) ?_
  exact sn3_init_b9 cx  hres
set_option maxRecDepth 20000 in
theorem mt3_init {l : Launch} {M M' : am_Mem} {r0 : Nat} {x1 : Int32} {x2 : Int32} (h : fn3_init M r0 x1 x2 = some ((), M')) : am_Met l yX3_init cX3_init 3 none rm3_init 2 28 [.inr (.inr (.inl r0)), .inl x1, .inl x2] M none M' := am_mk (by decide) (Nat.le_of_ble_eq_true rfl) (fun G cx => (sn3_init_b0 cx h))
-- SquareCuts$NetLayer.takeSizes
def fn4_takeSizes_b56 (N : Nat) (k7 : Nat → Nat → Int32 → am_Mem → Option (Unit × am_Mem)) (c0 : Nat) (a1 : Int32) (a2 : Int32) (r0 : Nat) (r1 : Nat) (x2 : Int32) (M : am_Mem) : Option (Unit × am_Mem) :=
  am_ck (am_k M c0 4) (k7 r0 r1 (x2 + (1 : Int32)) (am_wI M c0 4 (a1 + a2)))
def fn4_takeSizes_b7B (N : Nat) (k7 : Nat → Nat → Int32 → am_Mem → Option (Unit × am_Mem)) (r0 : Nat) (r1 : Nat) (x2 : Int32) (M : am_Mem) : Option (Unit × am_Mem) :=
  am_ck (am_k M r1 3) (if (am_I M r1 1) ≤ x2 then some ((), M) else am_ck (am_k M r0 4) (am_ck (am_k M (am_R M r1 3) 14) (am_ck (am_in x2 (am_L M (am_R M r1 3))) (am_ck (am_k M (am_R M r0 1) 14) (am_ck (am_in x2 (am_L M (am_R M r0 1))) (am_ck (am_k M (am_R M r0 3) 16) (am_ck (am_in x2 (am_L M (am_R M r0 3))) (am_ck (am_in x2 (am_L M (am_R M r0 1))) (if (am_I (am_wI (am_wI M (am_R M r0 1) x2.toNatClampNeg (if 0 ≤ (am_I M (am_R M r1 3) x2.toNatClampNeg) then (am_I M (am_R M r1 3) x2.toNatClampNeg) else 0 - (am_I M (am_R M r1 3) x2.toNatClampNeg))) (am_R M r0 3) x2.toNatClampNeg ((0 : Int32) &&& 1)) (am_R M r0 1) x2.toNatClampNeg) ≤ 0 then fn4_takeSizes_b56 N k7 r0 (am_I (am_wI (am_wI M (am_R M r0 1) x2.toNatClampNeg (if 0 ≤ (am_I M (am_R M r1 3) x2.toNatClampNeg) then (am_I M (am_R M r1 3) x2.toNatClampNeg) else 0 - (am_I M (am_R M r1 3) x2.toNatClampNeg))) (am_R M r0 3) x2.toNatClampNeg ((0 : Int32) &&& 1)) r0 4) (0 : Int32) r0 r1 x2 (am_wI (am_wI M (am_R M r0 1) x2.toNatClampNeg (if 0 ≤ (am_I M (am_R M r1 3) x2.toNatClampNeg) then (am_I M (am_R M r1 3) x2.toNatClampNeg) else 0 - (am_I M (am_R M r1 3) x2.toNatClampNeg))) (am_R M r0 3) x2.toNatClampNeg ((0 : Int32) &&& 1)) else fn4_takeSizes_b56 N k7 r0 (am_I (am_wI (am_wI M (am_R M r0 1) x2.toNatClampNeg (if 0 ≤ (am_I M (am_R M r1 3) x2.toNatClampNeg) then (am_I M (am_R M r1 3) x2.toNatClampNeg) else 0 - (am_I M (am_R M r1 3) x2.toNatClampNeg))) (am_R M r0 3) x2.toNatClampNeg ((0 : Int32) &&& 1)) r0 4) (1 : Int32) r0 r1 x2 (am_wI (am_wI M (am_R M r0 1) x2.toNatClampNeg (if 0 ≤ (am_I M (am_R M r1 3) x2.toNatClampNeg) then (am_I M (am_R M r1 3) x2.toNatClampNeg) else 0 - (am_I M (am_R M r1 3) x2.toNatClampNeg))) (am_R M r0 3) x2.toNatClampNeg ((0 : Int32) &&& 1)))))))))))
def fn4_takeSizes_b7 (N : Nat)  : Nat → Nat → Nat → Int32 → am_Mem → Option (Unit × am_Mem)
  | 0 => fun _ _ _ _ => none
  | i + 1 => fn4_takeSizes_b7B N (fn4_takeSizes_b7 N  i)
def fn4_takeSizes_b0 (N : Nat)  (r0 : Nat) (r1 : Nat) (M : am_Mem) : Option (Unit × am_Mem) :=
  am_ck (am_k M r0 4) (fn4_takeSizes_b7 N  N r0 r1 (0 : Int32) (am_wI M r0 4 (0 : Int32)))
def fn4_takeSizes (N : Nat) (M : am_Mem) (r0 : Nat) (r1 : Nat) : Option (Unit × am_Mem) := fn4_takeSizes_b0 N r0 r1 M
def rm4_takeSizes : Room := { frames := 1, cells := 0, slots := 0, locals := 21 }
set_option maxRecDepth 20000 in
theorem sn4_takeSizes_b56 {l : Launch} {G : am_G} {M' : am_Mem} {N : Nat} {k7 : Nat → Nat → Int32 → am_Mem → Option (Unit × am_Mem)} (cx : am_Ctx l rm4_takeSizes yX4_takeSizes cX4_takeSizes 3 none none M' 0 0 G) (hk7 : ∀ (r0 : Nat) (r1 : Nat) (x2 : Int32) (M : am_Mem), k7 r0 r1 x2 M = some ((), M') → G 7 [(0, .inr (.inr (.inl r0))), (1, .inr (.inr (.inl r1))), (2, .inl x2)] [] M 0 0) {c0 : Nat} {a1 : Int32} {a2 : Int32} {r0 : Nat} {r1 : Nat} {x2 : Int32} {M : am_Mem} (hres : fn4_takeSizes_b56 N k7 c0 a1 a2 r0 r1 x2 M = some ((), M')) : G 56 [(0, .inr (.inr (.inl r0))), (1, .inr (.inr (.inl r1))), (2, .inl x2)] [.inl a2, .inl a1, .inr (.inr (.inl c0))] M 0 0 := by
  unfold fn4_takeSizes_b56 at hres
  refine am_iadd cx dX4_takeSizes_56 ?_
  obtain ⟨q1, hres⟩ := am_ck_some hres
  refine am_putI cx dX4_takeSizes_57 fpX4_45 (fun h => by cases h) (am_ke q1) ?_
  refine am_iincw cx (lv' := [(0, .inr (.inr (.inl r0))), (1, .inr (.inr (.inl r1))), (2, .inl (x2 + (1 : Int32)))]) (w := (1 : Int32)) 2 dX4_takeSizes_60 (by decide) rfl (Nat.le_of_ble_eq_true rfl) rfl ?_
  refine am_goto cx (tgt := 7) dX4_takeSizes_63 (by decide) ?_
  exact hk7 _ _ _ _ hres
set_option maxRecDepth 20000 in
theorem sn4_takeSizes_b7B {l : Launch} {G : am_G} {M' : am_Mem} {N : Nat} {k7 : Nat → Nat → Int32 → am_Mem → Option (Unit × am_Mem)} (cx : am_Ctx l rm4_takeSizes yX4_takeSizes cX4_takeSizes 3 none none M' 0 0 G) (hk7 : ∀ (r0 : Nat) (r1 : Nat) (x2 : Int32) (M : am_Mem), k7 r0 r1 x2 M = some ((), M') → G 7 [(0, .inr (.inr (.inl r0))), (1, .inr (.inr (.inl r1))), (2, .inl x2)] [] M 0 0) {r0 : Nat} {r1 : Nat} {x2 : Int32} {M : am_Mem} (hres : fn4_takeSizes_b7B N k7 r0 r1 x2 M = some ((), M')) : G 7 [(0, .inr (.inr (.inl r0))), (1, .inr (.inr (.inl r1))), (2, .inl x2)] [] M 0 0 := by
  unfold fn4_takeSizes_b7B at hres
  refine am_iload_n cx 2 dX4_takeSizes_7 rfl ?_
  refine am_aload_n cx 1 dX4_takeSizes_8 rfl ?_
  obtain ⟨q1, hres⟩ := am_ck_some hres
  refine am_getI cx dX4_takeSizes_9 flX4_63 (am_ke q1) ?_
  refine am_icmp_ge cx (tgt := 66) dX4_takeSizes_12 (by decide) (fun h => ?_) (fun h => ?_)
  · have hres := am_ifp h hres
    obtain ⟨-, rfl⟩ := am_fin hres
    exact am_vret cx dX4_takeSizes_66
  · have hres := am_ifn h hres
    refine am_aload_n cx 0 dX4_takeSizes_15 rfl ?_
    obtain ⟨q2, hres⟩ := am_ck_some hres
    refine am_getR cx dX4_takeSizes_16 flX4_17 (am_ke q2) ?_
    refine am_iload_n cx 2 dX4_takeSizes_19 rfl ?_
    refine am_aload_n cx 1 dX4_takeSizes_20 rfl ?_
    refine am_getR cx dX4_takeSizes_21 flX4_66 (am_ke q1) ?_
    refine am_iload_n cx 2 dX4_takeSizes_24 rfl ?_
    obtain ⟨q3, hres⟩ := am_ck_some hres
    obtain ⟨q4, hres⟩ := am_ck_some hres
    refine am_iald cx dX4_takeSizes_25 (am_ke q3) q4 ?_
    refine am_mabs cx dX4_takeSizes_26 aw_3_110 aw_3_95 aw_1_12 aw_3_96 (Nat.le_of_ble_eq_true rfl) (Nat.le_of_ble_eq_true rfl) (Nat.le_of_ble_eq_true rfl) (Nat.le_of_ble_eq_true rfl) ?_
    obtain ⟨q5, hres⟩ := am_ck_some hres
    obtain ⟨q6, hres⟩ := am_ck_some hres
    refine am_iast cx dX4_takeSizes_29 (am_ke q5) q6  ?_
    refine am_aload_n cx 0 dX4_takeSizes_30 rfl ?_
    refine am_getR cx dX4_takeSizes_31 flX4_24 (am_ke q2) ?_
    refine am_iload_n cx 2 dX4_takeSizes_34 rfl ?_
    refine am_iconst cx (v := (0 : Int32)) dX4_takeSizes_35 (by decide) ?_
    obtain ⟨q7, hres⟩ := am_ck_some hres
    obtain ⟨q8, hres⟩ := am_ck_some hres
    refine am_zast cx dX4_takeSizes_36 (am_ke q7) q8  ?_
    refine am_aload_n cx 0 dX4_takeSizes_37 rfl ?_
    refine am_dup cx dX4_takeSizes_38 rfl ?_
    refine am_getI cx dX4_takeSizes_39 flX4_45 (am_ke q2) ?_
    refine am_aload_n cx 0 dX4_takeSizes_42 rfl ?_
    refine am_getR cx dX4_takeSizes_43 flX4_17 (am_ke q2) ?_
    refine am_iload_n cx 2 dX4_takeSizes_46 rfl ?_
    obtain ⟨q9, hres⟩ := am_ck_some hres
    refine am_iald cx dX4_takeSizes_47 (am_ke q5) q9 ?_
    refine am_if_le cx (tgt := 55) dX4_takeSizes_48 (by decide) (fun h => ?_) (fun h => ?_)
    · have hres := am_ifp h hres
      refine am_iconst cx (v := (0 : Int32)) dX4_takeSizes_55 (by decide) ?_
      exact sn4_takeSizes_b56 cx hk7 hres
    · have hres := am_ifn h hres
      refine am_iconst cx (v := (1 : Int32)) dX4_takeSizes_51 (by decide) ?_
      refine am_goto cx (tgt := 56) dX4_takeSizes_52 (by decide) ?_
      exact sn4_takeSizes_b56 cx hk7 hres
set_option maxRecDepth 20000 in
theorem sn4_takeSizes_b7 {l : Launch} {G : am_G} {M' : am_Mem} {N : Nat}  (cx : am_Ctx l rm4_takeSizes yX4_takeSizes cX4_takeSizes 3 none none M' 0 0 G)  (i : Nat) : ∀ (r0 : Nat) (r1 : Nat) (x2 : Int32) (M : am_Mem), fn4_takeSizes_b7 N  i r0 r1 x2 M = some ((), M') → G 7 [(0, .inr (.inr (.inl r0))), (1, .inr (.inr (.inl r1))), (2, .inl x2)] [] M 0 0 := by
  induction i with
  | zero => intro r0 r1 x2 M hres; exact am_no hres
  | succ i ih => intro r0 r1 x2 M hres; exact sn4_takeSizes_b7B cx ih hres
set_option maxRecDepth 20000 in
theorem sn4_takeSizes_b0 {l : Launch} {G : am_G} {M' : am_Mem} {N : Nat}  (cx : am_Ctx l rm4_takeSizes yX4_takeSizes cX4_takeSizes 3 none none M' 0 0 G)  {r0 : Nat} {r1 : Nat} {M : am_Mem} (hres : fn4_takeSizes_b0 N  r0 r1 M = some ((), M')) : G 0 [(0, .inr (.inr (.inl r0))), (1, .inr (.inr (.inl r1)))] [] M 0 0 := by
  unfold fn4_takeSizes_b0 at hres
  refine am_aload_n cx 0 dX4_takeSizes_0 rfl ?_
  refine am_iconst cx (v := (0 : Int32)) dX4_takeSizes_1 (by decide) ?_
  obtain ⟨q1, hres⟩ := am_ck_some hres
  refine am_putI cx dX4_takeSizes_2 fpX4_45 (fun h => by cases h) (am_ke q1) ?_
  refine am_iconst cx (v := (0 : Int32)) dX4_takeSizes_5 (by decide) ?_
  refine am_istore_n cx (lv' := [(0, .inr (.inr (.inl r0))), (1, .inr (.inr (.inl r1))), (2, .inl (0 : Int32))]) dX4_takeSizes_6 (Nat.le_of_ble_eq_true rfl) rfl ?_
  exact sn4_takeSizes_b7 cx  N _ _ _ _ hres
set_option maxRecDepth 20000 in
theorem mt4_takeSizes {l : Launch} {M M' : am_Mem} {N : Nat} {r0 : Nat} {r1 : Nat} (h : fn4_takeSizes N M r0 r1 = some ((), M')) : am_Met l yX4_takeSizes cX4_takeSizes 3 none rm4_takeSizes 0 0 [.inr (.inr (.inl r0)), .inr (.inr (.inl r1))] M none M' := am_mk (by decide) (Nat.le_of_ble_eq_true rfl) (fun G cx => (sn4_takeSizes_b0 cx h))
-- SquareCuts$NetSolver.<init>
def fn5_init_b40   (M : am_Mem) : Option (Unit × am_Mem) :=
  some ((), M)
def fn5_init_b32  (r0 : Nat) (M : am_Mem) : Option (Unit × am_Mem) :=
  am_ck (am_k (am_new M 14 (14 : Int32).toNatClampNeg) r0 5) (fn5_init_b40   (am_wR (am_new M 14 (14 : Int32).toNatClampNeg) r0 3 (am_n M + 1)))
def fn5_init_b24  (r0 : Nat) (M : am_Mem) : Option (Unit × am_Mem) :=
  am_ck (am_k (am_new M 14 (14 : Int32).toNatClampNeg) r0 5) (fn5_init_b32  r0 (am_wR (am_new M 14 (14 : Int32).toNatClampNeg) r0 2 (am_n M + 1)))
def fn5_init_b16  (r0 : Nat) (M : am_Mem) : Option (Unit × am_Mem) :=
  am_ck (am_k (am_new M 14 (14 : Int32).toNatClampNeg) r0 5) (fn5_init_b24  r0 (am_wR (am_new M 14 (14 : Int32).toNatClampNeg) r0 1 (am_n M + 1)))
def fn5_init_b0  (r0 : Nat) (M : am_Mem) : Option (Unit × am_Mem) :=
  am_ck (am_k M r0 5) (am_ck (am_k (am_mna M 20 15 9 10) r0 5) (fn5_init_b16  r0 (am_wR (am_mna M 20 15 9 10) r0 0 (am_n M + 1))))
def fn5_init (M : am_Mem) (r0 : Nat) : Option (Unit × am_Mem) := fn5_init_b0  r0 M
def rm5_init : Room := { frames := 1, cells := 13, slots := 141, locals := 20 }
set_option maxRecDepth 20000 in
theorem sn5_init_b40 {l : Launch} {G : am_G} {M' : am_Mem}  (cx : am_Ctx l rm5_init yX5_init cX5_init 1 none none M' 13 141 G)   {M : am_Mem} (hres : fn5_init_b40   M = some ((), M')) : G 40 [] [] M 13 141 := by
  unfold fn5_init_b40 at hres
  obtain ⟨-, rfl⟩ := am_fin hres
  exact am_vret cx dX5_init_40
set_option maxRecDepth 20000 in
theorem sn5_init_b32 {l : Launch} {G : am_G} {M' : am_Mem}  (cx : am_Ctx l rm5_init yX5_init cX5_init 1 none none M' 13 141 G)  {r0 : Nat} {M : am_Mem} (hres : fn5_init_b32  r0 M = some ((), M')) : G 32 [(0, .inr (.inr (.inl r0)))] [] M 12 127 := by
  unfold fn5_init_b32 at hres
  refine am_aload_n cx 0 dX5_init_32 rfl ?_
  refine am_bipush cx (v := (14 : Int32)) dX5_init_33 (by decide) ?_
  refine am_newI cx 14 dX5_init_35 aw_1_90 (by decide) (Nat.le_of_ble_eq_true rfl) (Nat.le_of_ble_eq_true rfl) (Nat.le_of_ble_eq_true rfl) ?_
  obtain ⟨q1, hres⟩ := am_ck_some hres
  refine am_putR cx dX5_init_37 fpX5_23 (fun _ => rfl) (Or.inr ⟨_, rfl⟩) (am_ke q1) ?_
  refine am_sub cx [] rfl ?_
  exact sn5_init_b40 cx  hres
set_option maxRecDepth 20000 in
theorem sn5_init_b24 {l : Launch} {G : am_G} {M' : am_Mem}  (cx : am_Ctx l rm5_init yX5_init cX5_init 1 none none M' 13 141 G)  {r0 : Nat} {M : am_Mem} (hres : fn5_init_b24  r0 M = some ((), M')) : G 24 [(0, .inr (.inr (.inl r0)))] [] M 11 113 := by
  unfold fn5_init_b24 at hres
  refine am_aload_n cx 0 dX5_init_24 rfl ?_
  refine am_bipush cx (v := (14 : Int32)) dX5_init_25 (by decide) ?_
  refine am_newI cx 14 dX5_init_27 aw_1_90 (by decide) (Nat.le_of_ble_eq_true rfl) (Nat.le_of_ble_eq_true rfl) (Nat.le_of_ble_eq_true rfl) ?_
  obtain ⟨q1, hres⟩ := am_ck_some hres
  refine am_putR cx dX5_init_29 fpX5_20 (fun _ => rfl) (Or.inr ⟨_, rfl⟩) (am_ke q1) ?_
  exact sn5_init_b32 cx  hres
set_option maxRecDepth 20000 in
theorem sn5_init_b16 {l : Launch} {G : am_G} {M' : am_Mem}  (cx : am_Ctx l rm5_init yX5_init cX5_init 1 none none M' 13 141 G)  {r0 : Nat} {M : am_Mem} (hres : fn5_init_b16  r0 M = some ((), M')) : G 16 [(0, .inr (.inr (.inl r0)))] [] M 10 99 := by
  unfold fn5_init_b16 at hres
  refine am_aload_n cx 0 dX5_init_16 rfl ?_
  refine am_bipush cx (v := (14 : Int32)) dX5_init_17 (by decide) ?_
  refine am_newI cx 14 dX5_init_19 aw_1_90 (by decide) (Nat.le_of_ble_eq_true rfl) (Nat.le_of_ble_eq_true rfl) (Nat.le_of_ble_eq_true rfl) ?_
  obtain ⟨q1, hres⟩ := am_ck_some hres
  refine am_putR cx dX5_init_21 fpX5_16 (fun _ => rfl) (Or.inr ⟨_, rfl⟩) (am_ke q1) ?_
  exact sn5_init_b24 cx  hres
set_option maxRecDepth 20000 in
theorem sn5_init_b0 {l : Launch} {G : am_G} {M' : am_Mem}  (cx : am_Ctx l rm5_init yX5_init cX5_init 1 none none M' 13 141 G)  {r0 : Nat} {M : am_Mem} (hres : fn5_init_b0  r0 M = some ((), M')) : G 0 [(0, .inr (.inr (.inl r0)))] [] M 0 0 := by
  unfold fn5_init_b0 at hres
  refine am_aload_n cx 0 dX5_init_0 rfl ?_
  obtain ⟨q1, hres⟩ := am_ck_some hres
  refine am_objInit cx dX5_init_1 aw_1_130 aw_1_31 aw_1_32 (by rw [show am_K _ _ = 5 from (am_ke q1)]; decide) (Nat.le_of_ble_eq_true rfl) (Nat.le_of_ble_eq_true rfl) ?_
  refine am_aload_n cx 0 dX5_init_4 rfl ?_
  refine am_bipush cx (v := (9 : Int32)) dX5_init_5 (by decide) ?_
  refine am_bipush cx (v := (10 : Int32)) dX5_init_7 (by decide) ?_
  refine am_mnaJ cx 9 10 (by decide) (by decide) (by decide) (by decide) (by decide) dX5_init_9 aw_1_131 an_1_132 aw_1_88 (Nat.le_of_ble_eq_true rfl) (Nat.le_of_ble_eq_true rfl) ?_
  obtain ⟨q2, hres⟩ := am_ck_some hres
  refine am_putR cx dX5_init_13 fpX5_11 (fun _ => rfl) (Or.inr ⟨_, rfl⟩) (am_ke q2) ?_
  exact sn5_init_b16 cx  hres
set_option maxRecDepth 20000 in
theorem mt5_init {l : Launch} {M M' : am_Mem} {r0 : Nat} (h : fn5_init M r0 = some ((), M')) : am_Met l yX5_init cX5_init 1 none rm5_init 13 141 [.inr (.inr (.inl r0))] M none M' := am_mk (by decide) (Nat.le_of_ble_eq_true rfl) (fun G cx => (sn5_init_b0 cx h))
-- SquareCuts$NetSolver.reduceRow
def fn5_reduceRow_b31B (N : Nat) (k31 : Nat → Int32 → Int32 → Int32 → Int64 → Int64 → Int64 → Int32 → am_Mem → Option (Unit × am_Mem)) (r0 : Nat) (x1 : Int32) (x2 : Int32) (x3 : Int32) (j4 : Int64) (j6 : Int64) (j8 : Int64) (x10 : Int32) (M : am_Mem) : Option (Unit × am_Mem) :=
  if x3 < x10 then some ((), M) else am_ck (am_k M r0 5) (am_ck (am_k M (am_R M r0 0) 20) (am_ck (am_in x1 (am_L M (am_R M r0 0))) (am_ck (am_in x1 (am_L M (am_R M r0 0))) (am_ck (am_k M (am_R M (am_R M r0 0) x1.toNatClampNeg) 15) (am_ck (am_in x10 (am_L M (am_R M (am_R M r0 0) x1.toNatClampNeg))) (am_ck (am_in x2 (am_L M (am_R M r0 0))) (am_ck (am_k M (am_R M (am_R M r0 0) x2.toNatClampNeg) 15) (am_ck (am_in x10 (am_L M (am_R M (am_R M r0 0) x2.toNatClampNeg))) (am_ck (decide (¬ j4 = 0)) (am_ck (am_in x10 (am_L M (am_R M (am_R M r0 0) x1.toNatClampNeg))) (k31 r0 x1 x2 x3 j4 j6 j8 (x10 + (1 : Int32)) (am_wJ M (am_R M (am_R M r0 0) x1.toNatClampNeg) x10.toNatClampNeg (((j6 * (am_J M (am_R M (am_R M r0 0) x1.toNatClampNeg) x10.toNatClampNeg)) - (j8 * (am_J M (am_R M (am_R M r0 0) x2.toNatClampNeg) x10.toNatClampNeg))) / j4)))))))))))))
def fn5_reduceRow_b31 (N : Nat)  : Nat → Nat → Int32 → Int32 → Int32 → Int64 → Int64 → Int64 → Int32 → am_Mem → Option (Unit × am_Mem)
  | 0 => fun _ _ _ _ _ _ _ _ _ => none
  | i + 1 => fn5_reduceRow_b31B N (fn5_reduceRow_b31 N  i)
def fn5_reduceRow_b28 (N : Nat)  (r0 : Nat) (x1 : Int32) (x2 : Int32) (x3 : Int32) (j4 : Int64) (j6 : Int64) (j8 : Int64) (M : am_Mem) : Option (Unit × am_Mem) :=
  fn5_reduceRow_b31 N  N r0 x1 x2 x3 j4 j6 j8 (0 : Int32) M
def fn5_reduceRow_b18 (N : Nat)  (r0 : Nat) (x1 : Int32) (x2 : Int32) (x3 : Int32) (j4 : Int64) (j6 : Int64) (M : am_Mem) : Option (Unit × am_Mem) :=
  am_ck (am_k M r0 5) (am_ck (am_k M (am_R M r0 0) 20) (am_ck (am_in x1 (am_L M (am_R M r0 0))) (am_ck (am_k M (am_R M (am_R M r0 0) x1.toNatClampNeg) 15) (am_ck (am_in x2 (am_L M (am_R M (am_R M r0 0) x1.toNatClampNeg))) (fn5_reduceRow_b28 N  r0 x1 x2 x3 j4 j6 (am_J M (am_R M (am_R M r0 0) x1.toNatClampNeg) x2.toNatClampNeg) M)))))
def fn5_reduceRow_b0 (N : Nat)  (r0 : Nat) (x1 : Int32) (x2 : Int32) (x3 : Int32) (j4 : Int64) (M : am_Mem) : Option (Unit × am_Mem) :=
  if (lg_cmp j4 (0 : Int64)) = 0 then some ((), M) else am_ck (am_k M r0 5) (am_ck (am_k M (am_R M r0 0) 20) (am_ck (am_in x2 (am_L M (am_R M r0 0))) (am_ck (am_k M (am_R M (am_R M r0 0) x2.toNatClampNeg) 15) (am_ck (am_in x2 (am_L M (am_R M (am_R M r0 0) x2.toNatClampNeg))) (fn5_reduceRow_b18 N  r0 x1 x2 x3 j4 (am_J M (am_R M (am_R M r0 0) x2.toNatClampNeg) x2.toNatClampNeg) M)))))
def fn5_reduceRow (N : Nat) (M : am_Mem) (r0 : Nat) (x1 : Int32) (x2 : Int32) (x3 : Int32) (j4 : Int64) : Option (Unit × am_Mem) := fn5_reduceRow_b0 N r0 x1 x2 x3 j4 M
def rm5_reduceRow : Room := { frames := 0, cells := 0, slots := 0, locals := 0 }
set_option maxRecDepth 20000 in
theorem sn5_reduceRow_b31B {l : Launch} {G : am_G} {M' : am_Mem} {N : Nat} {k31 : Nat → Int32 → Int32 → Int32 → Int64 → Int64 → Int64 → Int32 → am_Mem → Option (Unit × am_Mem)} (cx : am_Ctx l rm5_reduceRow yX5_reduceRow cX5_reduceRow 11 none none M' 0 0 G) (hk31 : ∀ (r0 : Nat) (x1 : Int32) (x2 : Int32) (x3 : Int32) (j4 : Int64) (j6 : Int64) (j8 : Int64) (x10 : Int32) (M : am_Mem), k31 r0 x1 x2 x3 j4 j6 j8 x10 M = some ((), M') → G 31 [(0, .inr (.inr (.inl r0))), (1, .inl x1), (2, .inl x2), (3, .inl x3), (4, .inr (.inl j4)), (6, .inr (.inl j6)), (8, .inr (.inl j8)), (10, .inl x10)] [] M 0 0) {r0 : Nat} {x1 : Int32} {x2 : Int32} {x3 : Int32} {j4 : Int64} {j6 : Int64} {j8 : Int64} {x10 : Int32} {M : am_Mem} (hres : fn5_reduceRow_b31B N k31 r0 x1 x2 x3 j4 j6 j8 x10 M = some ((), M')) : G 31 [(0, .inr (.inr (.inl r0))), (1, .inl x1), (2, .inl x2), (3, .inl x3), (4, .inr (.inl j4)), (6, .inr (.inl j6)), (8, .inr (.inl j8)), (10, .inl x10)] [] M 0 0 := by
  unfold fn5_reduceRow_b31B at hres
  refine am_iload cx 7 dX5_reduceRow_31 rfl ?_
  refine am_iload_n cx 3 dX5_reduceRow_33 rfl ?_
  refine am_icmp_gt cx (tgt := 80) dX5_reduceRow_34 (by decide) (fun h => ?_) (fun h => ?_)
  · have hres := am_ifp h hres
    obtain ⟨-, rfl⟩ := am_fin hres
    exact am_vret cx dX5_reduceRow_80
  · have hres := am_ifn h hres
    refine am_aload_n cx 0 dX5_reduceRow_37 rfl ?_
    obtain ⟨q1, hres⟩ := am_ck_some hres
    refine am_getR cx dX5_reduceRow_38 flX5_11 (am_ke q1) ?_
    refine am_iload_n cx 1 dX5_reduceRow_41 rfl ?_
    obtain ⟨q2, hres⟩ := am_ck_some hres
    obtain ⟨q3, hres⟩ := am_ck_some hres
    refine am_aald20 cx dX5_reduceRow_42 (am_ke q2) q3 ?_
    refine am_iload cx 7 dX5_reduceRow_43 rfl ?_
    refine am_lload cx 5 dX5_reduceRow_45 rfl ?_
    refine am_aload_n cx 0 dX5_reduceRow_47 rfl ?_
    refine am_getR cx dX5_reduceRow_48 flX5_11 (am_ke q1) ?_
    refine am_iload_n cx 1 dX5_reduceRow_51 rfl ?_
    obtain ⟨q4, hres⟩ := am_ck_some hres
    refine am_aald20 cx dX5_reduceRow_52 (am_ke q2) q4 ?_
    refine am_iload cx 7 dX5_reduceRow_53 rfl ?_
    obtain ⟨q5, hres⟩ := am_ck_some hres
    obtain ⟨q6, hres⟩ := am_ck_some hres
    refine am_lald cx dX5_reduceRow_55 (am_ke q5) q6 ?_
    refine am_lmul cx dX5_reduceRow_56 ?_
    refine am_lload cx 6 dX5_reduceRow_57 rfl ?_
    refine am_aload_n cx 0 dX5_reduceRow_59 rfl ?_
    refine am_getR cx dX5_reduceRow_60 flX5_11 (am_ke q1) ?_
    refine am_iload_n cx 2 dX5_reduceRow_63 rfl ?_
    obtain ⟨q7, hres⟩ := am_ck_some hres
    refine am_aald20 cx dX5_reduceRow_64 (am_ke q2) q7 ?_
    refine am_iload cx 7 dX5_reduceRow_65 rfl ?_
    obtain ⟨q8, hres⟩ := am_ck_some hres
    obtain ⟨q9, hres⟩ := am_ck_some hres
    refine am_lald cx dX5_reduceRow_67 (am_ke q8) q9 ?_
    refine am_lmul cx dX5_reduceRow_68 ?_
    refine am_lsub cx dX5_reduceRow_69 ?_
    refine am_lload cx 4 dX5_reduceRow_70 rfl ?_
    obtain ⟨q10, hres⟩ := am_ck_some hres
    refine am_ldiv cx dX5_reduceRow_72 (of_decide_eq_true q10) ?_
    obtain ⟨q11, hres⟩ := am_ck_some hres
    refine am_last cx dX5_reduceRow_73 (am_ke q5) q11  ?_
    refine am_iincw cx (lv' := [(0, .inr (.inr (.inl r0))), (1, .inl x1), (2, .inl x2), (3, .inl x3), (4, .inr (.inl j4)), (6, .inr (.inl j6)), (8, .inr (.inl j8)), (10, .inl (x10 + (1 : Int32)))]) (w := (1 : Int32)) 7 dX5_reduceRow_74 (by decide) rfl (Nat.le_of_ble_eq_true rfl) rfl ?_
    refine am_goto cx (tgt := 31) dX5_reduceRow_77 (by decide) ?_
    exact hk31 _ _ _ _ _ _ _ _ _ hres
set_option maxRecDepth 20000 in
theorem sn5_reduceRow_b31 {l : Launch} {G : am_G} {M' : am_Mem} {N : Nat}  (cx : am_Ctx l rm5_reduceRow yX5_reduceRow cX5_reduceRow 11 none none M' 0 0 G)  (i : Nat) : ∀ (r0 : Nat) (x1 : Int32) (x2 : Int32) (x3 : Int32) (j4 : Int64) (j6 : Int64) (j8 : Int64) (x10 : Int32) (M : am_Mem), fn5_reduceRow_b31 N  i r0 x1 x2 x3 j4 j6 j8 x10 M = some ((), M') → G 31 [(0, .inr (.inr (.inl r0))), (1, .inl x1), (2, .inl x2), (3, .inl x3), (4, .inr (.inl j4)), (6, .inr (.inl j6)), (8, .inr (.inl j8)), (10, .inl x10)] [] M 0 0 := by
  induction i with
  | zero => intro r0 x1 x2 x3 j4 j6 j8 x10 M hres; exact am_no hres
  | succ i ih => intro r0 x1 x2 x3 j4 j6 j8 x10 M hres; exact sn5_reduceRow_b31B cx ih hres
set_option maxRecDepth 20000 in
theorem sn5_reduceRow_b28 {l : Launch} {G : am_G} {M' : am_Mem} {N : Nat}  (cx : am_Ctx l rm5_reduceRow yX5_reduceRow cX5_reduceRow 11 none none M' 0 0 G)  {r0 : Nat} {x1 : Int32} {x2 : Int32} {x3 : Int32} {j4 : Int64} {j6 : Int64} {j8 : Int64} {M : am_Mem} (hres : fn5_reduceRow_b28 N  r0 x1 x2 x3 j4 j6 j8 M = some ((), M')) : G 28 [(0, .inr (.inr (.inl r0))), (1, .inl x1), (2, .inl x2), (3, .inl x3), (4, .inr (.inl j4)), (6, .inr (.inl j6)), (8, .inr (.inl j8))] [] M 0 0 := by
  unfold fn5_reduceRow_b28 at hres
  refine am_iconst cx (v := (0 : Int32)) dX5_reduceRow_28 (by decide) ?_
  refine am_istore cx (lv' := [(0, .inr (.inr (.inl r0))), (1, .inl x1), (2, .inl x2), (3, .inl x3), (4, .inr (.inl j4)), (6, .inr (.inl j6)), (8, .inr (.inl j8)), (10, .inl (0 : Int32))]) dX5_reduceRow_29 (Nat.le_of_ble_eq_true rfl) rfl ?_
  exact sn5_reduceRow_b31 cx  N _ _ _ _ _ _ _ _ _ hres
set_option maxRecDepth 20000 in
theorem sn5_reduceRow_b18 {l : Launch} {G : am_G} {M' : am_Mem} {N : Nat}  (cx : am_Ctx l rm5_reduceRow yX5_reduceRow cX5_reduceRow 11 none none M' 0 0 G)  {r0 : Nat} {x1 : Int32} {x2 : Int32} {x3 : Int32} {j4 : Int64} {j6 : Int64} {M : am_Mem} (hres : fn5_reduceRow_b18 N  r0 x1 x2 x3 j4 j6 M = some ((), M')) : G 18 [(0, .inr (.inr (.inl r0))), (1, .inl x1), (2, .inl x2), (3, .inl x3), (4, .inr (.inl j4)), (6, .inr (.inl j6))] [] M 0 0 := by
  unfold fn5_reduceRow_b18 at hres
  refine am_aload_n cx 0 dX5_reduceRow_18 rfl ?_
  obtain ⟨q1, hres⟩ := am_ck_some hres
  refine am_getR cx dX5_reduceRow_19 flX5_11 (am_ke q1) ?_
  refine am_iload_n cx 1 dX5_reduceRow_22 rfl ?_
  obtain ⟨q2, hres⟩ := am_ck_some hres
  obtain ⟨q3, hres⟩ := am_ck_some hres
  refine am_aald20 cx dX5_reduceRow_23 (am_ke q2) q3 ?_
  refine am_iload_n cx 2 dX5_reduceRow_24 rfl ?_
  obtain ⟨q4, hres⟩ := am_ck_some hres
  obtain ⟨q5, hres⟩ := am_ck_some hres
  refine am_lald cx dX5_reduceRow_25 (am_ke q4) q5 ?_
  refine am_lstore cx (lv' := [(0, .inr (.inr (.inl r0))), (1, .inl x1), (2, .inl x2), (3, .inl x3), (4, .inr (.inl j4)), (6, .inr (.inl j6)), (8, .inr (.inl (am_J M (am_R M (am_R M r0 0) x1.toNatClampNeg) x2.toNatClampNeg)))]) dX5_reduceRow_26 (Nat.le_of_ble_eq_true rfl) rfl ?_
  exact sn5_reduceRow_b28 cx  hres
set_option maxRecDepth 20000 in
theorem sn5_reduceRow_b0 {l : Launch} {G : am_G} {M' : am_Mem} {N : Nat}  (cx : am_Ctx l rm5_reduceRow yX5_reduceRow cX5_reduceRow 11 none none M' 0 0 G)  {r0 : Nat} {x1 : Int32} {x2 : Int32} {x3 : Int32} {j4 : Int64} {M : am_Mem} (hres : fn5_reduceRow_b0 N  r0 x1 x2 x3 j4 M = some ((), M')) : G 0 [(0, .inr (.inr (.inl r0))), (1, .inl x1), (2, .inl x2), (3, .inl x3), (4, .inr (.inl j4))] [] M 0 0 := by
  unfold fn5_reduceRow_b0 at hres
  refine am_lload cx 4 dX5_reduceRow_0 rfl ?_
  refine am_lconst cx (v := (0 : Int64)) dX5_reduceRow_2 (by decide) ?_
  refine am_lcmp cx dX5_reduceRow_3 ?_
  refine am_if_ne cx (tgt := 8) dX5_reduceRow_4 (by decide) (fun h => ?_) (fun h => ?_)
  · have hres := am_ifn h hres
    refine am_aload_n cx 0 dX5_reduceRow_8 rfl ?_
    obtain ⟨q1, hres⟩ := am_ck_some hres
    refine am_getR cx dX5_reduceRow_9 flX5_11 (am_ke q1) ?_
    refine am_iload_n cx 2 dX5_reduceRow_12 rfl ?_
    obtain ⟨q2, hres⟩ := am_ck_some hres
    obtain ⟨q3, hres⟩ := am_ck_some hres
    refine am_aald20 cx dX5_reduceRow_13 (am_ke q2) q3 ?_
    refine am_iload_n cx 2 dX5_reduceRow_14 rfl ?_
    obtain ⟨q4, hres⟩ := am_ck_some hres
    obtain ⟨q5, hres⟩ := am_ck_some hres
    refine am_lald cx dX5_reduceRow_15 (am_ke q4) q5 ?_
    refine am_lstore cx (lv' := [(0, .inr (.inr (.inl r0))), (1, .inl x1), (2, .inl x2), (3, .inl x3), (4, .inr (.inl j4)), (6, .inr (.inl (am_J M (am_R M (am_R M r0 0) x2.toNatClampNeg) x2.toNatClampNeg)))]) dX5_reduceRow_16 (Nat.le_of_ble_eq_true rfl) rfl ?_
    exact sn5_reduceRow_b18 cx  hres
  · have hres := am_ifp h hres
    obtain ⟨-, rfl⟩ := am_fin hres
    exact am_vret cx dX5_reduceRow_7
set_option maxRecDepth 20000 in
theorem mt5_reduceRow {l : Launch} {M M' : am_Mem} {N : Nat} {r0 : Nat} {x1 : Int32} {x2 : Int32} {x3 : Int32} {j4 : Int64} (h : fn5_reduceRow N M r0 x1 x2 x3 j4 = some ((), M')) : am_Met l yX5_reduceRow cX5_reduceRow 11 none rm5_reduceRow 0 0 [.inr (.inr (.inl r0)), .inl x1, .inl x2, .inl x3, .inr (.inl j4)] M none M' := am_mk (by decide) (Nat.le_of_ble_eq_true rfl) (fun G cx => (sn5_reduceRow_b0 cx h))
-- SquareCuts$Outline.<init>
def fn6_init_b22   (M : am_Mem) : Option (Unit × am_Mem) :=
  some ((), M)
def fn6_init_b13  (r0 : Nat) (x1 : Int32) (M : am_Mem) : Option (Unit × am_Mem) :=
  am_ck (am_cnt (x1 + (1 : Int32)) 25) (am_ck (am_k (am_new M 14 (x1 + (1 : Int32)).toNatClampNeg) r0 6) (fn6_init_b22   (am_wR (am_new M 14 (x1 + (1 : Int32)).toNatClampNeg) r0 1 (am_n M + 1))))
def fn6_init_b0  (r0 : Nat) (x1 : Int32) (M : am_Mem) : Option (Unit × am_Mem) :=
  am_ck (am_k M r0 6) (am_ck (am_cnt (x1 + (1 : Int32)) 25) (am_ck (am_k (am_new M 14 (x1 + (1 : Int32)).toNatClampNeg) r0 6) (fn6_init_b13  r0 x1 (am_wR (am_new M 14 (x1 + (1 : Int32)).toNatClampNeg) r0 0 (am_n M + 1)))))
def fn6_init (M : am_Mem) (r0 : Nat) (x1 : Int32) : Option (Unit × am_Mem) := fn6_init_b0  r0 x1 M
def rm6_init : Room := { frames := 1, cells := 2, slots := 50, locals := 20 }
set_option maxRecDepth 20000 in
theorem sn6_init_b22 {l : Launch} {G : am_G} {M' : am_Mem}  (cx : am_Ctx l rm6_init yX6_init cX6_init 2 none none M' 2 50 G)   {M : am_Mem} (hres : fn6_init_b22   M = some ((), M')) : G 22 [] [] M 2 50 := by
  unfold fn6_init_b22 at hres
  obtain ⟨-, rfl⟩ := am_fin hres
  exact am_vret cx dX6_init_22
set_option maxRecDepth 20000 in
theorem sn6_init_b13 {l : Launch} {G : am_G} {M' : am_Mem}  (cx : am_Ctx l rm6_init yX6_init cX6_init 2 none none M' 2 50 G)  {r0 : Nat} {x1 : Int32} {M : am_Mem} (hres : fn6_init_b13  r0 x1 M = some ((), M')) : G 13 [(0, .inr (.inr (.inl r0))), (1, .inl x1)] [] M 1 25 := by
  unfold fn6_init_b13 at hres
  refine am_aload_n cx 0 dX6_init_13 rfl ?_
  refine am_iload_n cx 1 dX6_init_14 rfl ?_
  refine am_iconst cx (v := (1 : Int32)) dX6_init_15 (by decide) ?_
  refine am_iadd cx dX6_init_16 ?_
  obtain ⟨q1, hres⟩ := am_ck_some hres
  refine am_newI cx 25 dX6_init_17 aw_1_90 q1 (Nat.le_of_ble_eq_true rfl) (Nat.le_of_ble_eq_true rfl) (Nat.le_of_ble_eq_true rfl) ?_
  obtain ⟨q2, hres⟩ := am_ck_some hres
  refine am_putR cx dX6_init_19 fpX6_13 (fun _ => rfl) (Or.inr ⟨_, rfl⟩) (am_ke q2) ?_
  refine am_sub cx [] rfl ?_
  exact sn6_init_b22 cx  hres
set_option maxRecDepth 20000 in
theorem sn6_init_b0 {l : Launch} {G : am_G} {M' : am_Mem}  (cx : am_Ctx l rm6_init yX6_init cX6_init 2 none none M' 2 50 G)  {r0 : Nat} {x1 : Int32} {M : am_Mem} (hres : fn6_init_b0  r0 x1 M = some ((), M')) : G 0 [(0, .inr (.inr (.inl r0))), (1, .inl x1)] [] M 0 0 := by
  unfold fn6_init_b0 at hres
  refine am_aload_n cx 0 dX6_init_0 rfl ?_
  obtain ⟨q1, hres⟩ := am_ck_some hres
  refine am_objInit cx dX6_init_1 aw_1_102 aw_1_31 aw_1_32 (by rw [show am_K _ _ = 6 from (am_ke q1)]; decide) (Nat.le_of_ble_eq_true rfl) (Nat.le_of_ble_eq_true rfl) ?_
  refine am_aload_n cx 0 dX6_init_4 rfl ?_
  refine am_iload_n cx 1 dX6_init_5 rfl ?_
  refine am_iconst cx (v := (1 : Int32)) dX6_init_6 (by decide) ?_
  refine am_iadd cx dX6_init_7 ?_
  obtain ⟨q2, hres⟩ := am_ck_some hres
  refine am_newI cx 25 dX6_init_8 aw_1_90 q2 (Nat.le_of_ble_eq_true rfl) (Nat.le_of_ble_eq_true rfl) (Nat.le_of_ble_eq_true rfl) ?_
  obtain ⟨q3, hres⟩ := am_ck_some hres
  refine am_putR cx dX6_init_10 fpX6_7 (fun _ => rfl) (Or.inr ⟨_, rfl⟩) (am_ke q3) ?_
  exact sn6_init_b13 cx  hres
set_option maxRecDepth 20000 in
theorem mt6_init {l : Launch} {M M' : am_Mem} {r0 : Nat} {x1 : Int32} (h : fn6_init M r0 x1 = some ((), M')) : am_Met l yX6_init cX6_init 2 none rm6_init 2 50 [.inr (.inr (.inl r0)), .inl x1] M none M' := am_mk (by decide) (Nat.le_of_ble_eq_true rfl) (fun G cx => (sn6_init_b0 cx h))
-- SquareCuts$Outline.open
def fn6_open_b0  (r0 : Nat) (x1 : Int32) (M : am_Mem) : Option (Unit × am_Mem) :=
  am_ck (am_k M r0 6) (am_ck (am_k M (am_R M r0 0) 14) (am_ck (am_in (0 : Int32) (am_L M (am_R M r0 0))) (am_ck (am_k M (am_R M r0 1) 14) (am_ck (am_in (0 : Int32) (am_L M (am_R M r0 1))) (some ((), (am_wI (am_wI (am_wI (am_wI M (am_R M r0 0) (0 : Int32).toNatClampNeg x1) (am_R M r0 1) (0 : Int32).toNatClampNeg (0 : Int32)) r0 3 (1 : Int32)) r0 2 (0 : Int32))))))))
def fn6_open (M : am_Mem) (r0 : Nat) (x1 : Int32) : Option (Unit × am_Mem) := fn6_open_b0  r0 x1 M
def rm6_open : Room := { frames := 0, cells := 0, slots := 0, locals := 0 }
set_option maxRecDepth 20000 in
theorem sn6_open_b0 {l : Launch} {G : am_G} {M' : am_Mem}  (cx : am_Ctx l rm6_open yX6_open cX6_open 2 none none M' 0 0 G)  {r0 : Nat} {x1 : Int32} {M : am_Mem} (hres : fn6_open_b0  r0 x1 M = some ((), M')) : G 0 [(0, .inr (.inr (.inl r0))), (1, .inl x1)] [] M 0 0 := by
  unfold fn6_open_b0 at hres
  refine am_aload_n cx 0 dX6_open_0 rfl ?_
  obtain ⟨q1, hres⟩ := am_ck_some hres
  refine am_getR cx dX6_open_1 flX6_7 (am_ke q1) ?_
  refine am_iconst cx (v := (0 : Int32)) dX6_open_4 (by decide) ?_
  refine am_iload_n cx 1 dX6_open_5 rfl ?_
  obtain ⟨q2, hres⟩ := am_ck_some hres
  obtain ⟨q3, hres⟩ := am_ck_some hres
  refine am_iast cx dX6_open_6 (am_ke q2) q3  ?_
  refine am_aload_n cx 0 dX6_open_7 rfl ?_
  refine am_getR cx dX6_open_8 flX6_13 (am_ke q1) ?_
  refine am_iconst cx (v := (0 : Int32)) dX6_open_11 (by decide) ?_
  refine am_iconst cx (v := (0 : Int32)) dX6_open_12 (by decide) ?_
  obtain ⟨q4, hres⟩ := am_ck_some hres
  obtain ⟨q5, hres⟩ := am_ck_some hres
  refine am_iast cx dX6_open_13 (am_ke q4) q5  ?_
  refine am_aload_n cx 0 dX6_open_14 rfl ?_
  refine am_iconst cx (v := (1 : Int32)) dX6_open_15 (by decide) ?_
  refine am_putI cx dX6_open_16 fpX6_16 (fun h => by cases h) (am_ke q1) ?_
  refine am_aload_n cx 0 dX6_open_19 rfl ?_
  refine am_iconst cx (v := (0 : Int32)) dX6_open_20 (by decide) ?_
  refine am_putI cx dX6_open_21 fpX6_20 (fun h => by cases h) (am_ke q1) ?_
  obtain ⟨-, rfl⟩ := am_fin hres
  exact am_vret cx dX6_open_24
set_option maxRecDepth 20000 in
theorem mt6_open {l : Launch} {M M' : am_Mem} {r0 : Nat} {x1 : Int32} (h : fn6_open M r0 x1 = some ((), M')) : am_Met l yX6_open cX6_open 2 none rm6_open 0 0 [.inr (.inr (.inl r0)), .inl x1] M none M' := am_mk (by decide) (Nat.le_of_ble_eq_true rfl) (fun G cx => (sn6_open_b0 cx h))
-- SquareCuts$Outline.copyFrom
def fn6_copyFrom_b0  (r0 : Nat) (r1 : Nat) (M : am_Mem) : Option (Unit × am_Mem) :=
  am_ck (am_k M r1 6) (am_ck (am_k M r0 6) (am_ck (am_k M (am_R M r0 0) 14) (am_ck (am_k M (am_R M r1 0) 14) (am_ck (am_cnt (0 : Int32) (am_L M (am_R M r1 0))) (am_ck (am_cnt (0 : Int32) (am_L M (am_R M r0 0))) (am_ck (am_cnt (am_I (am_wI (am_wI M r0 3 (if (Int32.ofNat (am_L M (am_R M r0 0))) < (am_I M r1 3) then (Int32.ofNat (am_L M (am_R M r0 0))) else (am_I M r1 3))) r0 2 (am_I (am_wI M r0 3 (if (Int32.ofNat (am_L M (am_R M r0 0))) < (am_I M r1 3) then (Int32.ofNat (am_L M (am_R M r0 0))) else (am_I M r1 3))) r1 2)) r0 3) (am_L M (am_R M r1 0))) (am_ck (decide ((0 : Int32).toNatClampNeg + (am_I (am_wI (am_wI M r0 3 (if (Int32.ofNat (am_L M (am_R M r0 0))) < (am_I M r1 3) then (Int32.ofNat (am_L M (am_R M r0 0))) else (am_I M r1 3))) r0 2 (am_I (am_wI M r0 3 (if (Int32.ofNat (am_L M (am_R M r0 0))) < (am_I M r1 3) then (Int32.ofNat (am_L M (am_R M r0 0))) else (am_I M r1 3))) r1 2)) r0 3).toNatClampNeg ≤ (am_L M (am_R M r1 0)))) (am_ck (decide ((0 : Int32).toNatClampNeg + (am_I (am_wI (am_wI M r0 3 (if (Int32.ofNat (am_L M (am_R M r0 0))) < (am_I M r1 3) then (Int32.ofNat (am_L M (am_R M r0 0))) else (am_I M r1 3))) r0 2 (am_I (am_wI M r0 3 (if (Int32.ofNat (am_L M (am_R M r0 0))) < (am_I M r1 3) then (Int32.ofNat (am_L M (am_R M r0 0))) else (am_I M r1 3))) r1 2)) r0 3).toNatClampNeg ≤ (am_L M (am_R M r0 0)))) (am_ck (am_k M (am_R M r1 1) 14) (am_ck (am_k M (am_R M r0 1) 14) (am_ck (am_cnt (0 : Int32) (am_L M (am_R M r1 1))) (am_ck (am_cnt (0 : Int32) (am_L M (am_R M r0 1))) (am_ck (am_cnt (am_I (am_cpy (am_wI (am_wI M r0 3 (if (Int32.ofNat (am_L M (am_R M r0 0))) < (am_I M r1 3) then (Int32.ofNat (am_L M (am_R M r0 0))) else (am_I M r1 3))) r0 2 (am_I (am_wI M r0 3 (if (Int32.ofNat (am_L M (am_R M r0 0))) < (am_I M r1 3) then (Int32.ofNat (am_L M (am_R M r0 0))) else (am_I M r1 3))) r1 2)) (am_R M r1 0) (am_R M r0 0) (0 : Int32).toNatClampNeg (0 : Int32).toNatClampNeg (am_I (am_wI (am_wI M r0 3 (if (Int32.ofNat (am_L M (am_R M r0 0))) < (am_I M r1 3) then (Int32.ofNat (am_L M (am_R M r0 0))) else (am_I M r1 3))) r0 2 (am_I (am_wI M r0 3 (if (Int32.ofNat (am_L M (am_R M r0 0))) < (am_I M r1 3) then (Int32.ofNat (am_L M (am_R M r0 0))) else (am_I M r1 3))) r1 2)) r0 3).toNatClampNeg) r0 3) (am_L M (am_R M r1 1))) (am_ck (decide ((0 : Int32).toNatClampNeg + (am_I (am_cpy (am_wI (am_wI M r0 3 (if (Int32.ofNat (am_L M (am_R M r0 0))) < (am_I M r1 3) then (Int32.ofNat (am_L M (am_R M r0 0))) else (am_I M r1 3))) r0 2 (am_I (am_wI M r0 3 (if (Int32.ofNat (am_L M (am_R M r0 0))) < (am_I M r1 3) then (Int32.ofNat (am_L M (am_R M r0 0))) else (am_I M r1 3))) r1 2)) (am_R M r1 0) (am_R M r0 0) (0 : Int32).toNatClampNeg (0 : Int32).toNatClampNeg (am_I (am_wI (am_wI M r0 3 (if (Int32.ofNat (am_L M (am_R M r0 0))) < (am_I M r1 3) then (Int32.ofNat (am_L M (am_R M r0 0))) else (am_I M r1 3))) r0 2 (am_I (am_wI M r0 3 (if (Int32.ofNat (am_L M (am_R M r0 0))) < (am_I M r1 3) then (Int32.ofNat (am_L M (am_R M r0 0))) else (am_I M r1 3))) r1 2)) r0 3).toNatClampNeg) r0 3).toNatClampNeg ≤ (am_L M (am_R M r1 1)))) (am_ck (decide ((0 : Int32).toNatClampNeg + (am_I (am_cpy (am_wI (am_wI M r0 3 (if (Int32.ofNat (am_L M (am_R M r0 0))) < (am_I M r1 3) then (Int32.ofNat (am_L M (am_R M r0 0))) else (am_I M r1 3))) r0 2 (am_I (am_wI M r0 3 (if (Int32.ofNat (am_L M (am_R M r0 0))) < (am_I M r1 3) then (Int32.ofNat (am_L M (am_R M r0 0))) else (am_I M r1 3))) r1 2)) (am_R M r1 0) (am_R M r0 0) (0 : Int32).toNatClampNeg (0 : Int32).toNatClampNeg (am_I (am_wI (am_wI M r0 3 (if (Int32.ofNat (am_L M (am_R M r0 0))) < (am_I M r1 3) then (Int32.ofNat (am_L M (am_R M r0 0))) else (am_I M r1 3))) r0 2 (am_I (am_wI M r0 3 (if (Int32.ofNat (am_L M (am_R M r0 0))) < (am_I M r1 3) then (Int32.ofNat (am_L M (am_R M r0 0))) else (am_I M r1 3))) r1 2)) r0 3).toNatClampNeg) r0 3).toNatClampNeg ≤ (am_L M (am_R M r0 1)))) (some ((), (am_cpy (am_cpy (am_wI (am_wI M r0 3 (if (Int32.ofNat (am_L M (am_R M r0 0))) < (am_I M r1 3) then (Int32.ofNat (am_L M (am_R M r0 0))) else (am_I M r1 3))) r0 2 (am_I (am_wI M r0 3 (if (Int32.ofNat (am_L M (am_R M r0 0))) < (am_I M r1 3) then (Int32.ofNat (am_L M (am_R M r0 0))) else (am_I M r1 3))) r1 2)) (am_R M r1 0) (am_R M r0 0) (0 : Int32).toNatClampNeg (0 : Int32).toNatClampNeg (am_I (am_wI (am_wI M r0 3 (if (Int32.ofNat (am_L M (am_R M r0 0))) < (am_I M r1 3) then (Int32.ofNat (am_L M (am_R M r0 0))) else (am_I M r1 3))) r0 2 (am_I (am_wI M r0 3 (if (Int32.ofNat (am_L M (am_R M r0 0))) < (am_I M r1 3) then (Int32.ofNat (am_L M (am_R M r0 0))) else (am_I M r1 3))) r1 2)) r0 3).toNatClampNeg) (am_R M r1 1) (am_R M r0 1) (0 : Int32).toNatClampNeg (0 : Int32).toNatClampNeg (am_I (am_cpy (am_wI (am_wI M r0 3 (if (Int32.ofNat (am_L M (am_R M r0 0))) < (am_I M r1 3) then (Int32.ofNat (am_L M (am_R M r0 0))) else (am_I M r1 3))) r0 2 (am_I (am_wI M r0 3 (if (Int32.ofNat (am_L M (am_R M r0 0))) < (am_I M r1 3) then (Int32.ofNat (am_L M (am_R M r0 0))) else (am_I M r1 3))) r1 2)) (am_R M r1 0) (am_R M r0 0) (0 : Int32).toNatClampNeg (0 : Int32).toNatClampNeg (am_I (am_wI (am_wI M r0 3 (if (Int32.ofNat (am_L M (am_R M r0 0))) < (am_I M r1 3) then (Int32.ofNat (am_L M (am_R M r0 0))) else (am_I M r1 3))) r0 2 (am_I (am_wI M r0 3 (if (Int32.ofNat (am_L M (am_R M r0 0))) < (am_I M r1 3) then (Int32.ofNat (am_L M (am_R M r0 0))) else (am_I M r1 3))) r1 2)) r0 3).toNatClampNeg) r0 3).toNatClampNeg))))))))))))))))))
def fn6_copyFrom (M : am_Mem) (r0 : Nat) (r1 : Nat) : Option (Unit × am_Mem) := fn6_copyFrom_b0  r0 r1 M
def rm6_copyFrom : Room := { frames := 1, cells := 0, slots := 0, locals := 60 }
set_option maxRecDepth 20000 in
theorem sn6_copyFrom_b0 {l : Launch} {G : am_G} {M' : am_Mem}  (cx : am_Ctx l rm6_copyFrom yX6_copyFrom cX6_copyFrom 2 none none M' 0 0 G)  {r0 : Nat} {r1 : Nat} {M : am_Mem} (hres : fn6_copyFrom_b0  r0 r1 M = some ((), M')) : G 0 [(0, .inr (.inr (.inl r0))), (1, .inr (.inr (.inl r1)))] [] M 0 0 := by
  unfold fn6_copyFrom_b0 at hres
  refine am_aload_n cx 0 dX6_copyFrom_0 rfl ?_
  refine am_aload_n cx 1 dX6_copyFrom_1 rfl ?_
  obtain ⟨q1, hres⟩ := am_ck_some hres
  refine am_getI cx dX6_copyFrom_2 flX6_16 (am_ke q1) ?_
  refine am_aload_n cx 0 dX6_copyFrom_5 rfl ?_
  obtain ⟨q2, hres⟩ := am_ck_some hres
  refine am_getR cx dX6_copyFrom_6 flX6_7 (am_ke q2) ?_
  obtain ⟨q3, hres⟩ := am_ck_some hres
  refine am_alen14 cx dX6_copyFrom_9 (am_ke q3) ?_
  refine am_mmin cx dX6_copyFrom_10 aw_3_127 aw_2_83 aw_1_12 aw_2_84 (Nat.le_of_ble_eq_true rfl) (Nat.le_of_ble_eq_true rfl) (Nat.le_of_ble_eq_true rfl) (Nat.le_of_ble_eq_true rfl) ?_
  refine am_putI cx dX6_copyFrom_13 fpX6_16 (fun h => by cases h) (am_ke q2) ?_
  refine am_aload_n cx 0 dX6_copyFrom_16 rfl ?_
  refine am_aload_n cx 1 dX6_copyFrom_17 rfl ?_
  refine am_getI cx dX6_copyFrom_18 flX6_20 (am_ke q1) ?_
  refine am_putI cx dX6_copyFrom_21 fpX6_20 (fun h => by cases h) (am_ke q2) ?_
  refine am_aload_n cx 1 dX6_copyFrom_24 rfl ?_
  refine am_getR cx dX6_copyFrom_25 flX6_7 (am_ke q1) ?_
  refine am_iconst cx (v := (0 : Int32)) dX6_copyFrom_28 (by decide) ?_
  refine am_aload_n cx 0 dX6_copyFrom_29 rfl ?_
  refine am_getR cx dX6_copyFrom_30 flX6_7 (am_ke q2) ?_
  refine am_iconst cx (v := (0 : Int32)) dX6_copyFrom_33 (by decide) ?_
  refine am_aload_n cx 0 dX6_copyFrom_34 rfl ?_
  refine am_getI cx dX6_copyFrom_35 flX6_16 (am_ke q2) ?_
  obtain ⟨q4, hres⟩ := am_ck_some hres
  obtain ⟨q5, hres⟩ := am_ck_some hres
  obtain ⟨q6, hres⟩ := am_ck_some hres
  obtain ⟨q7, hres⟩ := am_ck_some hres
  obtain ⟨q8, hres⟩ := am_ck_some hres
  obtain ⟨q9, hres⟩ := am_ck_some hres
  refine am_copyI cx dX6_copyFrom_38 aw_3_128 aw_3_130 aw_3_129 aw_1_16 (am_ke q4) (am_ke q3) q5 q6 q7 q8 q9 (Nat.le_of_ble_eq_true rfl) (Nat.le_of_ble_eq_true rfl) ?_
  refine am_aload_n cx 1 dX6_copyFrom_41 rfl ?_
  refine am_getR cx dX6_copyFrom_42 flX6_13 (am_ke q1) ?_
  refine am_iconst cx (v := (0 : Int32)) dX6_copyFrom_45 (by decide) ?_
  refine am_aload_n cx 0 dX6_copyFrom_46 rfl ?_
  refine am_getR cx dX6_copyFrom_47 flX6_13 (am_ke q2) ?_
  refine am_iconst cx (v := (0 : Int32)) dX6_copyFrom_50 (by decide) ?_
  refine am_aload_n cx 0 dX6_copyFrom_51 rfl ?_
  refine am_getI cx dX6_copyFrom_52 flX6_16 (am_ke q2) ?_
  obtain ⟨q10, hres⟩ := am_ck_some hres
  obtain ⟨q11, hres⟩ := am_ck_some hres
  obtain ⟨q12, hres⟩ := am_ck_some hres
  obtain ⟨q13, hres⟩ := am_ck_some hres
  obtain ⟨q14, hres⟩ := am_ck_some hres
  obtain ⟨q15, hres⟩ := am_ck_some hres
  obtain ⟨q16, hres⟩ := am_ck_some hres
  refine am_copyI cx dX6_copyFrom_55 aw_3_128 aw_3_130 aw_3_129 aw_1_16 (am_ke q10) (am_ke q11) q12 q13 q14 q15 q16 (Nat.le_of_ble_eq_true rfl) (Nat.le_of_ble_eq_true rfl) ?_
  obtain ⟨-, rfl⟩ := am_fin hres
  exact am_vret cx dX6_copyFrom_58
set_option maxRecDepth 20000 in
theorem mt6_copyFrom {l : Launch} {M M' : am_Mem} {r0 : Nat} {r1 : Nat} (h : fn6_copyFrom M r0 r1 = some ((), M')) : am_Met l yX6_copyFrom cX6_copyFrom 2 none rm6_copyFrom 0 0 [.inr (.inr (.inl r0)), .inr (.inr (.inl r1))] M none M' := am_mk (by decide) (Nat.le_of_ble_eq_true rfl) (fun G cx => (sn6_copyFrom_b0 cx h))
