-- SquareCutsModel.of
def fn12_of_b0  (r0 : Nat) (x1 : Int32) (x2 : Int32) (M : am_Mem) : Option (Int32 × am_Mem) :=
  am_ck (am_k M r0 12) (am_ck (am_k M (am_R M r0 17) 14) (am_ck (am_in (((124 : Int32) * x1) + x2) (am_L M (am_R M r0 17))) (some ((am_I M (am_R M r0 17) (((124 : Int32) * x1) + x2).toNatClampNeg), M))))
def fn12_of (M : am_Mem) (r0 : Nat) (x1 : Int32) (x2 : Int32) : Option (Int32 × am_Mem) := fn12_of_b0  r0 x1 x2 M
def rm12_of : Room := { frames := 0, cells := 0, slots := 0, locals := 0 }
set_option maxRecDepth 20000 in
theorem sn12_of_b0 {l : Launch} {G : am_G} {v : Int32} {M' : am_Mem}  (cx : am_Ctx l rm12_of yX12_of cX12_of 3 (some .int) (some (.inl v)) M' 0 0 G)  {r0 : Nat} {x1 : Int32} {x2 : Int32} {M : am_Mem} (hres : fn12_of_b0  r0 x1 x2 M = some (v, M')) : G 0 [(0, .inr (.inr (.inl r0))), (1, .inl x1), (2, .inl x2)] [] M 0 0 := by
  unfold fn12_of_b0 at hres
  refine am_aload_n cx 0 dX12_of_0 rfl ?_
  obtain ⟨q1, hres⟩ := am_ck_some hres
  refine am_getR cx dX12_of_1 flX12_30 (am_ke q1) ?_
  refine am_bipush cx (v := (124 : Int32)) dX12_of_4 (by decide) ?_
  refine am_iload_n cx 1 dX12_of_6 rfl ?_
  refine am_imul cx dX12_of_7 ?_
  refine am_iload_n cx 2 dX12_of_8 rfl ?_
  refine am_iadd cx dX12_of_9 ?_
  obtain ⟨q2, hres⟩ := am_ck_some hres
  obtain ⟨q3, hres⟩ := am_ck_some hres
  refine am_iald cx dX12_of_10 (am_ke q2) q3 ?_
  obtain ⟨rfl, rfl⟩ := am_fin hres
  exact am_iret cx dX12_of_11
set_option maxRecDepth 20000 in
theorem mt12_of {l : Launch} {v : Int32} {M M' : am_Mem} {r0 : Nat} {x1 : Int32} {x2 : Int32} (h : fn12_of M r0 x1 x2 = some (v, M')) : am_Met l yX12_of cX12_of 3 (some .int) rm12_of 0 0 [.inr (.inr (.inl r0)), .inl x1, .inl x2] M (some (.inl v)) M' := am_mk (by decide) (Nat.le_of_ble_eq_true rfl) (fun G cx => (sn12_of_b0 cx h))
-- SquareCutsModel.put
def fn12_put_b0  (r0 : Nat) (x1 : Int32) (x2 : Int32) (x3 : Int32) (M : am_Mem) : Option (Unit × am_Mem) :=
  am_ck (am_k M r0 12) (am_ck (am_k M (am_R M r0 17) 14) (am_ck (am_in (((124 : Int32) * x1) + x2) (am_L M (am_R M r0 17))) (some ((), (am_wI M (am_R M r0 17) (((124 : Int32) * x1) + x2).toNatClampNeg x3)))))
def fn12_put (M : am_Mem) (r0 : Nat) (x1 : Int32) (x2 : Int32) (x3 : Int32) : Option (Unit × am_Mem) := fn12_put_b0  r0 x1 x2 x3 M
def rm12_put : Room := { frames := 0, cells := 0, slots := 0, locals := 0 }
set_option maxRecDepth 20000 in
theorem sn12_put_b0 {l : Launch} {G : am_G} {M' : am_Mem}  (cx : am_Ctx l rm12_put yX12_put cX12_put 4 none none M' 0 0 G)  {r0 : Nat} {x1 : Int32} {x2 : Int32} {x3 : Int32} {M : am_Mem} (hres : fn12_put_b0  r0 x1 x2 x3 M = some ((), M')) : G 0 [(0, .inr (.inr (.inl r0))), (1, .inl x1), (2, .inl x2), (3, .inl x3)] [] M 0 0 := by
  unfold fn12_put_b0 at hres
  refine am_aload_n cx 0 dX12_put_0 rfl ?_
  obtain ⟨q1, hres⟩ := am_ck_some hres
  refine am_getR cx dX12_put_1 flX12_30 (am_ke q1) ?_
  refine am_bipush cx (v := (124 : Int32)) dX12_put_4 (by decide) ?_
  refine am_iload_n cx 1 dX12_put_6 rfl ?_
  refine am_imul cx dX12_put_7 ?_
  refine am_iload_n cx 2 dX12_put_8 rfl ?_
  refine am_iadd cx dX12_put_9 ?_
  refine am_iload_n cx 3 dX12_put_10 rfl ?_
  obtain ⟨q2, hres⟩ := am_ck_some hres
  obtain ⟨q3, hres⟩ := am_ck_some hres
  refine am_iast cx dX12_put_11 (am_ke q2) q3  ?_
  obtain ⟨-, rfl⟩ := am_fin hres
  exact am_vret cx dX12_put_12
set_option maxRecDepth 20000 in
theorem mt12_put {l : Launch} {M M' : am_Mem} {r0 : Nat} {x1 : Int32} {x2 : Int32} {x3 : Int32} (h : fn12_put M r0 x1 x2 x3 = some ((), M')) : am_Met l yX12_put cX12_put 4 none rm12_put 0 0 [.inr (.inr (.inl r0)), .inl x1, .inl x2, .inl x3] M none M' := am_mk (by decide) (Nat.le_of_ble_eq_true rfl) (fun G cx => (sn12_put_b0 cx h))
-- SquareCutsModel.laysOutline
def fn12_laysOutline_b0  (r0 : Nat) (x1 : Int32) (M : am_Mem) : Option (Unit × am_Mem) :=
  am_ck (am_k M r0 12) (am_ck (am_k M (am_R M r0 32) 14) (am_ck (am_in (0 : Int32) (am_L M (am_R M r0 32))) (am_ck (am_k M (am_R M r0 33) 14) (am_ck (am_in (0 : Int32) (am_L M (am_R M r0 33))) (am_ck (am_k M (am_R M r0 34) 14) (am_ck (am_in (0 : Int32) (am_L M (am_R M r0 34))) (some ((), (am_wI (am_wI (am_wI (am_wI M r0 35 x1) (am_R M r0 32) (0 : Int32).toNatClampNeg (1 : Int32)) (am_R M r0 33) (0 : Int32).toNatClampNeg (0 : Int32)) (am_R M r0 34) (0 : Int32).toNatClampNeg (0 : Int32))))))))))
def fn12_laysOutline (M : am_Mem) (r0 : Nat) (x1 : Int32) : Option (Unit × am_Mem) := fn12_laysOutline_b0  r0 x1 M
def rm12_laysOutline : Room := { frames := 0, cells := 0, slots := 0, locals := 0 }
set_option maxRecDepth 20000 in
theorem sn12_laysOutline_b0 {l : Launch} {G : am_G} {M' : am_Mem}  (cx : am_Ctx l rm12_laysOutline yX12_laysOutline cX12_laysOutline 2 none none M' 0 0 G)  {r0 : Nat} {x1 : Int32} {M : am_Mem} (hres : fn12_laysOutline_b0  r0 x1 M = some ((), M')) : G 0 [(0, .inr (.inr (.inl r0))), (1, .inl x1)] [] M 0 0 := by
  unfold fn12_laysOutline_b0 at hres
  refine am_aload_n cx 0 dX12_laysOutline_0 rfl ?_
  refine am_iload_n cx 1 dX12_laysOutline_1 rfl ?_
  obtain ⟨q1, hres⟩ := am_ck_some hres
  refine am_putI cx dX12_laysOutline_2 fpX12_209 (fun h => by cases h) (am_ke q1) ?_
  refine am_aload_n cx 0 dX12_laysOutline_5 rfl ?_
  refine am_getR cx dX12_laysOutline_6 flX12_70 (am_ke q1) ?_
  refine am_iconst cx (v := (0 : Int32)) dX12_laysOutline_9 (by decide) ?_
  refine am_iconst cx (v := (1 : Int32)) dX12_laysOutline_10 (by decide) ?_
  obtain ⟨q2, hres⟩ := am_ck_some hres
  obtain ⟨q3, hres⟩ := am_ck_some hres
  refine am_iast cx dX12_laysOutline_11 (am_ke q2) q3  ?_
  refine am_aload_n cx 0 dX12_laysOutline_12 rfl ?_
  refine am_getR cx dX12_laysOutline_13 flX12_73 (am_ke q1) ?_
  refine am_iconst cx (v := (0 : Int32)) dX12_laysOutline_16 (by decide) ?_
  refine am_iconst cx (v := (0 : Int32)) dX12_laysOutline_17 (by decide) ?_
  obtain ⟨q4, hres⟩ := am_ck_some hres
  obtain ⟨q5, hres⟩ := am_ck_some hres
  refine am_iast cx dX12_laysOutline_18 (am_ke q4) q5  ?_
  refine am_aload_n cx 0 dX12_laysOutline_19 rfl ?_
  refine am_getR cx dX12_laysOutline_20 flX12_76 (am_ke q1) ?_
  refine am_iconst cx (v := (0 : Int32)) dX12_laysOutline_23 (by decide) ?_
  refine am_iconst cx (v := (0 : Int32)) dX12_laysOutline_24 (by decide) ?_
  obtain ⟨q6, hres⟩ := am_ck_some hres
  obtain ⟨q7, hres⟩ := am_ck_some hres
  refine am_iast cx dX12_laysOutline_25 (am_ke q6) q7  ?_
  obtain ⟨-, rfl⟩ := am_fin hres
  exact am_vret cx dX12_laysOutline_26
set_option maxRecDepth 20000 in
theorem mt12_laysOutline {l : Launch} {M M' : am_Mem} {r0 : Nat} {x1 : Int32} (h : fn12_laysOutline M r0 x1 = some ((), M')) : am_Met l yX12_laysOutline cX12_laysOutline 2 none rm12_laysOutline 0 0 [.inr (.inr (.inl r0)), .inl x1] M none M' := am_mk (by decide) (Nat.le_of_ble_eq_true rfl) (fun G cx => (sn12_laysOutline_b0 cx h))
-- SquareCutsModel.notchAt
def fn12_notchAt_b41 (N : Nat) (k4 : Nat → Int32 → Int32 → Int32 → am_Mem → Option (Int32 × am_Mem)) (r0 : Nat) (x1 : Int32) (x2 : Int32) (x3 : Int32) (M : am_Mem) : Option (Int32 × am_Mem) :=
  k4 r0 x1 x2 (x3 + (1 : Int32)) M
def fn12_notchAt_b4B (N : Nat) (k4 : Nat → Int32 → Int32 → Int32 → am_Mem → Option (Int32 × am_Mem)) (r0 : Nat) (x1 : Int32) (x2 : Int32) (x3 : Int32) (M : am_Mem) : Option (Int32 × am_Mem) :=
  am_ck (am_k M r0 12) (am_ck (am_k M (am_R M r0 32) 14) (am_ck (am_in x1 (am_L M (am_R M r0 32))) (if (am_I M (am_R M r0 32) x1.toNatClampNeg) ≤ x3 then some (x2, M) else am_ck (am_k M (am_R M r0 34) 14) (am_ck (am_in (((42 : Int32) * x1) + x3) (am_L M (am_R M r0 34))) (am_ck (am_in (((42 : Int32) * x1) + x2) (am_L M (am_R M r0 34))) (if (am_I M (am_R M r0 34) (((42 : Int32) * x1) + x2).toNatClampNeg) ≤ (am_I M (am_R M r0 34) (((42 : Int32) * x1) + x3).toNatClampNeg) then fn12_notchAt_b41 N k4 r0 x1 x2 x3 M else fn12_notchAt_b41 N k4 r0 x1 x3 x3 M))))))
def fn12_notchAt_b4 (N : Nat)  : Nat → Nat → Int32 → Int32 → Int32 → am_Mem → Option (Int32 × am_Mem)
  | 0 => fun _ _ _ _ _ => none
  | i + 1 => fn12_notchAt_b4B N (fn12_notchAt_b4 N  i)
def fn12_notchAt_b0 (N : Nat)  (r0 : Nat) (x1 : Int32) (M : am_Mem) : Option (Int32 × am_Mem) :=
  fn12_notchAt_b4 N  N r0 x1 (0 : Int32) (1 : Int32) M
def fn12_notchAt (N : Nat) (M : am_Mem) (r0 : Nat) (x1 : Int32) : Option (Int32 × am_Mem) := fn12_notchAt_b0 N r0 x1 M
def rm12_notchAt : Room := { frames := 0, cells := 0, slots := 0, locals := 0 }
set_option maxRecDepth 20000 in
theorem sn12_notchAt_b41 {l : Launch} {G : am_G} {v : Int32} {M' : am_Mem} {N : Nat} {k4 : Nat → Int32 → Int32 → Int32 → am_Mem → Option (Int32 × am_Mem)} (cx : am_Ctx l rm12_notchAt yX12_notchAt cX12_notchAt 4 (some .int) (some (.inl v)) M' 0 0 G) (hk4 : ∀ (r0 : Nat) (x1 : Int32) (x2 : Int32) (x3 : Int32) (M : am_Mem), k4 r0 x1 x2 x3 M = some (v, M') → G 4 [(0, .inr (.inr (.inl r0))), (1, .inl x1), (2, .inl x2), (3, .inl x3)] [] M 0 0) {r0 : Nat} {x1 : Int32} {x2 : Int32} {x3 : Int32} {M : am_Mem} (hres : fn12_notchAt_b41 N k4 r0 x1 x2 x3 M = some (v, M')) : G 41 [(0, .inr (.inr (.inl r0))), (1, .inl x1), (2, .inl x2), (3, .inl x3)] [] M 0 0 := by
  unfold fn12_notchAt_b41 at hres
  refine am_iincw cx (lv' := [(0, .inr (.inr (.inl r0))), (1, .inl x1), (2, .inl x2), (3, .inl (x3 + (1 : Int32)))]) (w := (1 : Int32)) 3 dX12_notchAt_41 (by decide) rfl (Nat.le_of_ble_eq_true rfl) rfl ?_
  refine am_goto cx (tgt := 4) dX12_notchAt_44 (by decide) ?_
  exact hk4 _ _ _ _ _ hres
set_option maxRecDepth 20000 in
theorem sn12_notchAt_b4B {l : Launch} {G : am_G} {v : Int32} {M' : am_Mem} {N : Nat} {k4 : Nat → Int32 → Int32 → Int32 → am_Mem → Option (Int32 × am_Mem)} (cx : am_Ctx l rm12_notchAt yX12_notchAt cX12_notchAt 4 (some .int) (some (.inl v)) M' 0 0 G) (hk4 : ∀ (r0 : Nat) (x1 : Int32) (x2 : Int32) (x3 : Int32) (M : am_Mem), k4 r0 x1 x2 x3 M = some (v, M') → G 4 [(0, .inr (.inr (.inl r0))), (1, .inl x1), (2, .inl x2), (3, .inl x3)] [] M 0 0) {r0 : Nat} {x1 : Int32} {x2 : Int32} {x3 : Int32} {M : am_Mem} (hres : fn12_notchAt_b4B N k4 r0 x1 x2 x3 M = some (v, M')) : G 4 [(0, .inr (.inr (.inl r0))), (1, .inl x1), (2, .inl x2), (3, .inl x3)] [] M 0 0 := by
  unfold fn12_notchAt_b4B at hres
  refine am_iload_n cx 3 dX12_notchAt_4 rfl ?_
  refine am_aload_n cx 0 dX12_notchAt_5 rfl ?_
  obtain ⟨q1, hres⟩ := am_ck_some hres
  refine am_getR cx dX12_notchAt_6 flX12_70 (am_ke q1) ?_
  refine am_iload_n cx 1 dX12_notchAt_9 rfl ?_
  obtain ⟨q2, hres⟩ := am_ck_some hres
  obtain ⟨q3, hres⟩ := am_ck_some hres
  refine am_iald cx dX12_notchAt_10 (am_ke q2) q3 ?_
  refine am_icmp_ge cx (tgt := 47) dX12_notchAt_11 (by decide) (fun h => ?_) (fun h => ?_)
  · have hres := am_ifp h hres
    refine am_iload_n cx 2 dX12_notchAt_47 rfl ?_
    obtain ⟨rfl, rfl⟩ := am_fin hres
    exact am_iret cx dX12_notchAt_48
  · have hres := am_ifn h hres
    refine am_aload_n cx 0 dX12_notchAt_14 rfl ?_
    refine am_getR cx dX12_notchAt_15 flX12_76 (am_ke q1) ?_
    refine am_bipush cx (v := (42 : Int32)) dX12_notchAt_18 (by decide) ?_
    refine am_iload_n cx 1 dX12_notchAt_20 rfl ?_
    refine am_imul cx dX12_notchAt_21 ?_
    refine am_iload_n cx 3 dX12_notchAt_22 rfl ?_
    refine am_iadd cx dX12_notchAt_23 ?_
    obtain ⟨q4, hres⟩ := am_ck_some hres
    obtain ⟨q5, hres⟩ := am_ck_some hres
    refine am_iald cx dX12_notchAt_24 (am_ke q4) q5 ?_
    refine am_aload_n cx 0 dX12_notchAt_25 rfl ?_
    refine am_getR cx dX12_notchAt_26 flX12_76 (am_ke q1) ?_
    refine am_bipush cx (v := (42 : Int32)) dX12_notchAt_29 (by decide) ?_
    refine am_iload_n cx 1 dX12_notchAt_31 rfl ?_
    refine am_imul cx dX12_notchAt_32 ?_
    refine am_iload_n cx 2 dX12_notchAt_33 rfl ?_
    refine am_iadd cx dX12_notchAt_34 ?_
    obtain ⟨q6, hres⟩ := am_ck_some hres
    refine am_iald cx dX12_notchAt_35 (am_ke q4) q6 ?_
    refine am_icmp_ge cx (tgt := 41) dX12_notchAt_36 (by decide) (fun h => ?_) (fun h => ?_)
    · have hres := am_ifp h hres
      exact sn12_notchAt_b41 cx hk4 hres
    · have hres := am_ifn h hres
      refine am_iload_n cx 3 dX12_notchAt_39 rfl ?_
      refine am_istore_n cx (lv' := [(0, .inr (.inr (.inl r0))), (1, .inl x1), (2, .inl x3), (3, .inl x3)]) dX12_notchAt_40 (Nat.le_of_ble_eq_true rfl) rfl ?_
      exact sn12_notchAt_b41 cx hk4 hres
set_option maxRecDepth 20000 in
theorem sn12_notchAt_b4 {l : Launch} {G : am_G} {v : Int32} {M' : am_Mem} {N : Nat}  (cx : am_Ctx l rm12_notchAt yX12_notchAt cX12_notchAt 4 (some .int) (some (.inl v)) M' 0 0 G)  (i : Nat) : ∀ (r0 : Nat) (x1 : Int32) (x2 : Int32) (x3 : Int32) (M : am_Mem), fn12_notchAt_b4 N  i r0 x1 x2 x3 M = some (v, M') → G 4 [(0, .inr (.inr (.inl r0))), (1, .inl x1), (2, .inl x2), (3, .inl x3)] [] M 0 0 := by
  induction i with
  | zero => intro r0 x1 x2 x3 M hres; exact am_no hres
  | succ i ih => intro r0 x1 x2 x3 M hres; exact sn12_notchAt_b4B cx ih hres
set_option maxRecDepth 20000 in
theorem sn12_notchAt_b0 {l : Launch} {G : am_G} {v : Int32} {M' : am_Mem} {N : Nat}  (cx : am_Ctx l rm12_notchAt yX12_notchAt cX12_notchAt 4 (some .int) (some (.inl v)) M' 0 0 G)  {r0 : Nat} {x1 : Int32} {M : am_Mem} (hres : fn12_notchAt_b0 N  r0 x1 M = some (v, M')) : G 0 [(0, .inr (.inr (.inl r0))), (1, .inl x1)] [] M 0 0 := by
  unfold fn12_notchAt_b0 at hres
  refine am_iconst cx (v := (0 : Int32)) dX12_notchAt_0 (by decide) ?_
  refine am_istore_n cx (lv' := [(0, .inr (.inr (.inl r0))), (1, .inl x1), (2, .inl (0 : Int32))]) dX12_notchAt_1 (Nat.le_of_ble_eq_true rfl) rfl ?_
  refine am_iconst cx (v := (1 : Int32)) dX12_notchAt_2 (by decide) ?_
  refine am_istore_n cx (lv' := [(0, .inr (.inr (.inl r0))), (1, .inl x1), (2, .inl (0 : Int32)), (3, .inl (1 : Int32))]) dX12_notchAt_3 (Nat.le_of_ble_eq_true rfl) rfl ?_
  exact sn12_notchAt_b4 cx  N _ _ _ _ _ hres
set_option maxRecDepth 20000 in
theorem mt12_notchAt {l : Launch} {v : Int32} {M M' : am_Mem} {N : Nat} {r0 : Nat} {x1 : Int32} (h : fn12_notchAt N M r0 x1 = some (v, M')) : am_Met l yX12_notchAt cX12_notchAt 4 (some .int) rm12_notchAt 0 0 [.inr (.inr (.inl r0)), .inl x1] M (some (.inl v)) M' := am_mk (by decide) (Nat.le_of_ble_eq_true rfl) (fun G cx => (sn12_notchAt_b0 cx h))
-- SquareCutsModel.endOf
def fn12_endOf_b32  (a0 : Int32) (M : am_Mem) : Option (Int32 × am_Mem) :=
  some (a0, M)
def fn12_endOf_b0  (r0 : Nat) (x1 : Int32) (x2 : Int32) (M : am_Mem) : Option (Int32 × am_Mem) :=
  am_ck (am_k M r0 12) (am_ck (am_k M (am_R M r0 32) 14) (am_ck (am_in x1 (am_L M (am_R M r0 32))) (if (am_I M (am_R M r0 32) x1.toNatClampNeg) ≤ (x2 + (1 : Int32)) then fn12_endOf_b32  (am_I M r0 35) M else am_ck (am_k M (am_R M r0 33) 14) (am_ck (am_in ((((42 : Int32) * x1) + x2) + (1 : Int32)) (am_L M (am_R M r0 33))) (fn12_endOf_b32  (am_I M (am_R M r0 33) ((((42 : Int32) * x1) + x2) + (1 : Int32)).toNatClampNeg) M)))))
def fn12_endOf (M : am_Mem) (r0 : Nat) (x1 : Int32) (x2 : Int32) : Option (Int32 × am_Mem) := fn12_endOf_b0  r0 x1 x2 M
def rm12_endOf : Room := { frames := 0, cells := 0, slots := 0, locals := 0 }
set_option maxRecDepth 20000 in
theorem sn12_endOf_b32 {l : Launch} {G : am_G} {v : Int32} {M' : am_Mem}  (cx : am_Ctx l rm12_endOf yX12_endOf cX12_endOf 3 (some .int) (some (.inl v)) M' 0 0 G)  {a0 : Int32} {M : am_Mem} (hres : fn12_endOf_b32  a0 M = some (v, M')) : G 32 [] [.inl a0] M 0 0 := by
  unfold fn12_endOf_b32 at hres
  obtain ⟨rfl, rfl⟩ := am_fin hres
  exact am_iret cx dX12_endOf_32
set_option maxRecDepth 20000 in
theorem sn12_endOf_b0 {l : Launch} {G : am_G} {v : Int32} {M' : am_Mem}  (cx : am_Ctx l rm12_endOf yX12_endOf cX12_endOf 3 (some .int) (some (.inl v)) M' 0 0 G)  {r0 : Nat} {x1 : Int32} {x2 : Int32} {M : am_Mem} (hres : fn12_endOf_b0  r0 x1 x2 M = some (v, M')) : G 0 [(0, .inr (.inr (.inl r0))), (1, .inl x1), (2, .inl x2)] [] M 0 0 := by
  unfold fn12_endOf_b0 at hres
  refine am_iload_n cx 2 dX12_endOf_0 rfl ?_
  refine am_iconst cx (v := (1 : Int32)) dX12_endOf_1 (by decide) ?_
  refine am_iadd cx dX12_endOf_2 ?_
  refine am_aload_n cx 0 dX12_endOf_3 rfl ?_
  obtain ⟨q1, hres⟩ := am_ck_some hres
  refine am_getR cx dX12_endOf_4 flX12_70 (am_ke q1) ?_
  refine am_iload_n cx 1 dX12_endOf_7 rfl ?_
  obtain ⟨q2, hres⟩ := am_ck_some hres
  obtain ⟨q3, hres⟩ := am_ck_some hres
  refine am_iald cx dX12_endOf_8 (am_ke q2) q3 ?_
  refine am_icmp_ge cx (tgt := 28) dX12_endOf_9 (by decide) (fun h => ?_) (fun h => ?_)
  · have hres := am_ifp h hres
    refine am_aload_n cx 0 dX12_endOf_28 rfl ?_
    refine am_getI cx dX12_endOf_29 flX12_209 (am_ke q1) ?_
    refine am_sub cx [] rfl ?_
    exact sn12_endOf_b32 cx  hres
  · have hres := am_ifn h hres
    refine am_aload_n cx 0 dX12_endOf_12 rfl ?_
    refine am_getR cx dX12_endOf_13 flX12_73 (am_ke q1) ?_
    refine am_bipush cx (v := (42 : Int32)) dX12_endOf_16 (by decide) ?_
    refine am_iload_n cx 1 dX12_endOf_18 rfl ?_
    refine am_imul cx dX12_endOf_19 ?_
    refine am_iload_n cx 2 dX12_endOf_20 rfl ?_
    refine am_iadd cx dX12_endOf_21 ?_
    refine am_iconst cx (v := (1 : Int32)) dX12_endOf_22 (by decide) ?_
    refine am_iadd cx dX12_endOf_23 ?_
    obtain ⟨q4, hres⟩ := am_ck_some hres
    obtain ⟨q5, hres⟩ := am_ck_some hres
    refine am_iald cx dX12_endOf_24 (am_ke q4) q5 ?_
    refine am_goto cx (tgt := 32) dX12_endOf_25 (by decide) ?_
    refine am_sub cx [] rfl ?_
    exact sn12_endOf_b32 cx  hres
set_option maxRecDepth 20000 in
theorem mt12_endOf {l : Launch} {v : Int32} {M M' : am_Mem} {r0 : Nat} {x1 : Int32} {x2 : Int32} (h : fn12_endOf M r0 x1 x2 = some (v, M')) : am_Met l yX12_endOf cX12_endOf 3 (some .int) rm12_endOf 0 0 [.inr (.inr (.inl r0)), .inl x1, .inl x2] M (some (.inl v)) M' := am_mk (by decide) (Nat.le_of_ble_eq_true rfl) (fun G cx => (sn12_endOf_b0 cx h))
-- SquareCutsModel.widthOf
def fn12_widthOf_b0  (r0 : Nat) (x1 : Int32) (x2 : Int32) (M : am_Mem) : Option (Int32 × am_Mem) :=
  am_ck (am_k M r0 12) (am_bd (fn12_endOf M r0 x1 x2) (fun v2 M3 => am_ck (am_k M3 r0 12) (am_ck (am_k M3 (am_R M3 r0 33) 14) (am_ck (am_in (((42 : Int32) * x1) + x2) (am_L M3 (am_R M3 r0 33))) (some ((v2 - (am_I M3 (am_R M3 r0 33) (((42 : Int32) * x1) + x2).toNatClampNeg)), M3))))))
def fn12_widthOf (M : am_Mem) (r0 : Nat) (x1 : Int32) (x2 : Int32) : Option (Int32 × am_Mem) := fn12_widthOf_b0  r0 x1 x2 M
def rm12_widthOf : Room := { frames := 1, cells := 0, slots := 0, locals := 22 }
set_option maxRecDepth 20000 in
theorem sn12_widthOf_b0 {l : Launch} {G : am_G} {v : Int32} {M' : am_Mem}  (cx : am_Ctx l rm12_widthOf yX12_widthOf cX12_widthOf 3 (some .int) (some (.inl v)) M' 0 0 G)  {r0 : Nat} {x1 : Int32} {x2 : Int32} {M : am_Mem} (hres : fn12_widthOf_b0  r0 x1 x2 M = some (v, M')) : G 0 [(0, .inr (.inr (.inl r0))), (1, .inl x1), (2, .inl x2)] [] M 0 0 := by
  unfold fn12_widthOf_b0 at hres
  refine am_aload_n cx 0 dX12_widthOf_0 rfl ?_
  refine am_iload_n cx 1 dX12_widthOf_1 rfl ?_
  refine am_iload_n cx 2 dX12_widthOf_2 rfl ?_
  obtain ⟨q1, hres⟩ := am_ck_some hres
  obtain ⟨v2, M3, q4, hres⟩ := am_bd_some hres
  refine am_callV1 cx [.inl x1, .inl x2] dX12_widthOf_3 cvX12_212 (mt12_endOf q4) (am_ke q1) ⟨rfl, rfl, Nat.le_of_ble_eq_true rfl, Nat.le_of_ble_eq_true rfl⟩ rfl (Nat.le_of_ble_eq_true rfl) ⟨Nat.le_of_ble_eq_true rfl, Nat.le_of_ble_eq_true rfl⟩ ?_
  refine am_aload_n cx 0 dX12_widthOf_6 rfl ?_
  obtain ⟨q5, hres⟩ := am_ck_some hres
  refine am_getR cx dX12_widthOf_7 flX12_73 (am_ke q5) ?_
  refine am_bipush cx (v := (42 : Int32)) dX12_widthOf_10 (by decide) ?_
  refine am_iload_n cx 1 dX12_widthOf_12 rfl ?_
  refine am_imul cx dX12_widthOf_13 ?_
  refine am_iload_n cx 2 dX12_widthOf_14 rfl ?_
  refine am_iadd cx dX12_widthOf_15 ?_
  obtain ⟨q6, hres⟩ := am_ck_some hres
  obtain ⟨q7, hres⟩ := am_ck_some hres
  refine am_iald cx dX12_widthOf_16 (am_ke q6) q7 ?_
  refine am_isub cx dX12_widthOf_17 ?_
  obtain ⟨rfl, rfl⟩ := am_fin hres
  exact am_iret cx dX12_widthOf_18
set_option maxRecDepth 20000 in
theorem mt12_widthOf {l : Launch} {v : Int32} {M M' : am_Mem} {r0 : Nat} {x1 : Int32} {x2 : Int32} (h : fn12_widthOf M r0 x1 x2 = some (v, M')) : am_Met l yX12_widthOf cX12_widthOf 3 (some .int) rm12_widthOf 0 0 [.inr (.inr (.inl r0)), .inl x1, .inl x2] M (some (.inl v)) M' := am_mk (by decide) (Nat.le_of_ble_eq_true rfl) (fun G cx => (sn12_widthOf_b0 cx h))
-- SquareCutsModel.appends
def fn12_appends_b36  (r0 : Nat) (x1 : Int32) (x2 : Int32) (x3 : Int32) (x4 : Int32) (M : am_Mem) : Option (Unit × am_Mem) :=
  am_ck (am_k M r0 12) (am_ck (am_k M (am_R M r0 33) 14) (am_ck (am_in x4 (am_L M (am_R M r0 33))) (am_ck (am_k M (am_R M r0 34) 14) (am_ck (am_in x4 (am_L M (am_R M r0 34))) (am_ck (am_k M (am_R M r0 32) 14) (am_ck (am_in x1 (am_L M (am_R M r0 32))) (am_ck (am_in x1 (am_L M (am_R M r0 32))) (some ((), (am_wI (am_wI (am_wI M (am_R M r0 33) x4.toNatClampNeg x2) (am_R M r0 34) x4.toNatClampNeg x3) (am_R M r0 32) x1.toNatClampNeg ((am_I (am_wI (am_wI M (am_R M r0 33) x4.toNatClampNeg x2) (am_R M r0 34) x4.toNatClampNeg x3) (am_R M r0 32) x1.toNatClampNeg) + (1 : Int32))))))))))))
def fn12_appends_b13  (r0 : Nat) (x1 : Int32) (x2 : Int32) (x3 : Int32) (x4 : Int32) (M : am_Mem) : Option (Unit × am_Mem) :=
  am_ck (am_k M r0 12) (am_ck (am_k M (am_R M r0 32) 14) (am_ck (am_in x1 (am_L M (am_R M r0 32))) (if (am_I M (am_R M r0 32) x1.toNatClampNeg) ≤ 0 then fn12_appends_b36  r0 x1 x2 x3 x4 M else am_ck (am_k M (am_R M r0 34) 14) (am_ck (am_in (x4 - (1 : Int32)) (am_L M (am_R M r0 34))) (if (am_I M (am_R M r0 34) (x4 - (1 : Int32)).toNatClampNeg) = x3 then some ((), M) else fn12_appends_b36  r0 x1 x2 x3 x4 M)))))
def fn12_appends_b0  (r0 : Nat) (x1 : Int32) (x2 : Int32) (x3 : Int32) (M : am_Mem) : Option (Unit × am_Mem) :=
  am_ck (am_k M r0 12) (am_ck (am_k M (am_R M r0 32) 14) (am_ck (am_in x1 (am_L M (am_R M r0 32))) (fn12_appends_b13  r0 x1 x2 x3 (((42 : Int32) * x1) + (am_I M (am_R M r0 32) x1.toNatClampNeg)) M)))
def fn12_appends (M : am_Mem) (r0 : Nat) (x1 : Int32) (x2 : Int32) (x3 : Int32) : Option (Unit × am_Mem) := fn12_appends_b0  r0 x1 x2 x3 M
def rm12_appends : Room := { frames := 0, cells := 0, slots := 0, locals := 0 }
set_option maxRecDepth 20000 in
theorem sn12_appends_b36 {l : Launch} {G : am_G} {M' : am_Mem}  (cx : am_Ctx l rm12_appends yX12_appends cX12_appends 5 none none M' 0 0 G)  {r0 : Nat} {x1 : Int32} {x2 : Int32} {x3 : Int32} {x4 : Int32} {M : am_Mem} (hres : fn12_appends_b36  r0 x1 x2 x3 x4 M = some ((), M')) : G 36 [(0, .inr (.inr (.inl r0))), (1, .inl x1), (2, .inl x2), (3, .inl x3), (4, .inl x4)] [] M 0 0 := by
  unfold fn12_appends_b36 at hres
  refine am_aload_n cx 0 dX12_appends_36 rfl ?_
  obtain ⟨q1, hres⟩ := am_ck_some hres
  refine am_getR cx dX12_appends_37 flX12_73 (am_ke q1) ?_
  refine am_iload cx 4 dX12_appends_40 rfl ?_
  refine am_iload_n cx 2 dX12_appends_42 rfl ?_
  obtain ⟨q2, hres⟩ := am_ck_some hres
  obtain ⟨q3, hres⟩ := am_ck_some hres
  refine am_iast cx dX12_appends_43 (am_ke q2) q3  ?_
  refine am_aload_n cx 0 dX12_appends_44 rfl ?_
  refine am_getR cx dX12_appends_45 flX12_76 (am_ke q1) ?_
  refine am_iload cx 4 dX12_appends_48 rfl ?_
  refine am_iload_n cx 3 dX12_appends_50 rfl ?_
  obtain ⟨q4, hres⟩ := am_ck_some hres
  obtain ⟨q5, hres⟩ := am_ck_some hres
  refine am_iast cx dX12_appends_51 (am_ke q4) q5  ?_
  refine am_aload_n cx 0 dX12_appends_52 rfl ?_
  refine am_getR cx dX12_appends_53 flX12_70 (am_ke q1) ?_
  refine am_iload_n cx 1 dX12_appends_56 rfl ?_
  refine am_dup2 cx dX12_appends_57 rfl rfl ?_
  obtain ⟨q6, hres⟩ := am_ck_some hres
  obtain ⟨q7, hres⟩ := am_ck_some hres
  refine am_iald cx dX12_appends_58 (am_ke q6) q7 ?_
  refine am_iconst cx (v := (1 : Int32)) dX12_appends_59 (by decide) ?_
  refine am_iadd cx dX12_appends_60 ?_
  obtain ⟨q8, hres⟩ := am_ck_some hres
  refine am_iast cx dX12_appends_61 (am_ke q6) q8  ?_
  obtain ⟨-, rfl⟩ := am_fin hres
  exact am_vret cx dX12_appends_62
set_option maxRecDepth 20000 in
theorem sn12_appends_b13 {l : Launch} {G : am_G} {M' : am_Mem}  (cx : am_Ctx l rm12_appends yX12_appends cX12_appends 5 none none M' 0 0 G)  {r0 : Nat} {x1 : Int32} {x2 : Int32} {x3 : Int32} {x4 : Int32} {M : am_Mem} (hres : fn12_appends_b13  r0 x1 x2 x3 x4 M = some ((), M')) : G 13 [(0, .inr (.inr (.inl r0))), (1, .inl x1), (2, .inl x2), (3, .inl x3), (4, .inl x4)] [] M 0 0 := by
  unfold fn12_appends_b13 at hres
  refine am_aload_n cx 0 dX12_appends_13 rfl ?_
  obtain ⟨q1, hres⟩ := am_ck_some hres
  refine am_getR cx dX12_appends_14 flX12_70 (am_ke q1) ?_
  refine am_iload_n cx 1 dX12_appends_17 rfl ?_
  obtain ⟨q2, hres⟩ := am_ck_some hres
  obtain ⟨q3, hres⟩ := am_ck_some hres
  refine am_iald cx dX12_appends_18 (am_ke q2) q3 ?_
  refine am_if_le cx (tgt := 36) dX12_appends_19 (by decide) (fun h => ?_) (fun h => ?_)
  · have hres := am_ifp h hres
    exact sn12_appends_b36 cx  hres
  · have hres := am_ifn h hres
    refine am_aload_n cx 0 dX12_appends_22 rfl ?_
    refine am_getR cx dX12_appends_23 flX12_76 (am_ke q1) ?_
    refine am_iload cx 4 dX12_appends_26 rfl ?_
    refine am_iconst cx (v := (1 : Int32)) dX12_appends_28 (by decide) ?_
    refine am_isub cx dX12_appends_29 ?_
    obtain ⟨q4, hres⟩ := am_ck_some hres
    obtain ⟨q5, hres⟩ := am_ck_some hres
    refine am_iald cx dX12_appends_30 (am_ke q4) q5 ?_
    refine am_iload_n cx 3 dX12_appends_31 rfl ?_
    refine am_icmp_ne cx (tgt := 36) dX12_appends_32 (by decide) (fun h => ?_) (fun h => ?_)
    · have hres := am_ifn h hres
      exact sn12_appends_b36 cx  hres
    · have hres := am_ifp h hres
      obtain ⟨-, rfl⟩ := am_fin hres
      exact am_vret cx dX12_appends_35
set_option maxRecDepth 20000 in
theorem sn12_appends_b0 {l : Launch} {G : am_G} {M' : am_Mem}  (cx : am_Ctx l rm12_appends yX12_appends cX12_appends 5 none none M' 0 0 G)  {r0 : Nat} {x1 : Int32} {x2 : Int32} {x3 : Int32} {M : am_Mem} (hres : fn12_appends_b0  r0 x1 x2 x3 M = some ((), M')) : G 0 [(0, .inr (.inr (.inl r0))), (1, .inl x1), (2, .inl x2), (3, .inl x3)] [] M 0 0 := by
  unfold fn12_appends_b0 at hres
  refine am_bipush cx (v := (42 : Int32)) dX12_appends_0 (by decide) ?_
  refine am_iload_n cx 1 dX12_appends_2 rfl ?_
  refine am_imul cx dX12_appends_3 ?_
  refine am_aload_n cx 0 dX12_appends_4 rfl ?_
  obtain ⟨q1, hres⟩ := am_ck_some hres
  refine am_getR cx dX12_appends_5 flX12_70 (am_ke q1) ?_
  refine am_iload_n cx 1 dX12_appends_8 rfl ?_
  obtain ⟨q2, hres⟩ := am_ck_some hres
  obtain ⟨q3, hres⟩ := am_ck_some hres
  refine am_iald cx dX12_appends_9 (am_ke q2) q3 ?_
  refine am_iadd cx dX12_appends_10 ?_
  refine am_istore cx (lv' := [(0, .inr (.inr (.inl r0))), (1, .inl x1), (2, .inl x2), (3, .inl x3), (4, .inl (((42 : Int32) * x1) + (am_I M (am_R M r0 32) x1.toNatClampNeg)))]) dX12_appends_11 (Nat.le_of_ble_eq_true rfl) rfl ?_
  exact sn12_appends_b13 cx  hres
set_option maxRecDepth 20000 in
theorem mt12_appends {l : Launch} {M M' : am_Mem} {r0 : Nat} {x1 : Int32} {x2 : Int32} {x3 : Int32} (h : fn12_appends M r0 x1 x2 x3 = some ((), M')) : am_Met l yX12_appends cX12_appends 5 none rm12_appends 0 0 [.inr (.inr (.inl r0)), .inl x1, .inl x2, .inl x3] M none M' := am_mk (by decide) (Nat.le_of_ble_eq_true rfl) (fun G cx => (sn12_appends_b0 cx h))
-- SquareCutsModel.laysOn
def fn12_laysOn_b125 (N : Nat) (k18 : Nat → Int32 → Int32 → Int32 → Int32 → am_Mem → Option (Unit × am_Mem)) (r0 : Nat) (x1 : Int32) (x2 : Int32) (x3 : Int32) (x4 : Int32) (M : am_Mem) : Option (Unit × am_Mem) :=
  k18 r0 x1 x2 x3 (x4 + (1 : Int32)) M
def fn12_laysOn_b38 (N : Nat) (k18 : Nat → Int32 → Int32 → Int32 → Int32 → am_Mem → Option (Unit × am_Mem)) (r0 : Nat) (x1 : Int32) (x2 : Int32) (x3 : Int32) (x4 : Int32) (x5 : Int32) (M : am_Mem) : Option (Unit × am_Mem) :=
  if x4 = x3 then am_ck (am_k M r0 12) (am_ck (am_k M (am_R M r0 33) 14) (am_ck (am_in x5 (am_L M (am_R M r0 33))) (am_ck (am_k M (am_R M r0 34) 14) (am_ck (am_in x5 (am_L M (am_R M r0 34))) (am_bd (fn12_appends M r0 (x1 + (1 : Int32)) (am_I M (am_R M r0 33) x5.toNatClampNeg) ((am_I M (am_R M r0 34) x5.toNatClampNeg) + x2)) (fun v6 M7 => am_ck (am_k M7 r0 12) (am_bd (fn12_widthOf M7 r0 x1 x4) (fun v10 M11 => if v10 ≤ x2 then fn12_laysOn_b125 N k18 r0 x1 x2 x3 x4 M11 else am_ck (am_k M11 r0 12) (am_ck (am_k M11 (am_R M11 r0 33) 14) (am_ck (am_in x5 (am_L M11 (am_R M11 r0 33))) (am_ck (am_k M11 (am_R M11 r0 34) 14) (am_ck (am_in x5 (am_L M11 (am_R M11 r0 34))) (am_bd (fn12_appends M11 r0 (x1 + (1 : Int32)) ((am_I M11 (am_R M11 r0 33) x5.toNatClampNeg) + x2) (am_I M11 (am_R M11 r0 34) x5.toNatClampNeg)) (fun v18 M19 => fn12_laysOn_b125 N k18 r0 x1 x2 x3 x4 M19)))))))))))))) else am_ck (am_k M r0 12) (am_ck (am_k M (am_R M r0 33) 14) (am_ck (am_in x5 (am_L M (am_R M r0 33))) (am_ck (am_k M (am_R M r0 34) 14) (am_ck (am_in x5 (am_L M (am_R M r0 34))) (am_bd (fn12_appends M r0 (x1 + (1 : Int32)) (am_I M (am_R M r0 33) x5.toNatClampNeg) (am_I M (am_R M r0 34) x5.toNatClampNeg)) (fun v26 M27 => fn12_laysOn_b125 N k18 r0 x1 x2 x3 x4 M27))))))
def fn12_laysOn_b18B (N : Nat) (k18 : Nat → Int32 → Int32 → Int32 → Int32 → am_Mem → Option (Unit × am_Mem)) (r0 : Nat) (x1 : Int32) (x2 : Int32) (x3 : Int32) (x4 : Int32) (M : am_Mem) : Option (Unit × am_Mem) :=
  am_ck (am_k M r0 12) (am_ck (am_k M (am_R M r0 32) 14) (am_ck (am_in x1 (am_L M (am_R M r0 32))) (if (am_I M (am_R M r0 32) x1.toNatClampNeg) ≤ x4 then some ((), M) else fn12_laysOn_b38 N k18 r0 x1 x2 x3 x4 (((42 : Int32) * x1) + x4) M)))
def fn12_laysOn_b18 (N : Nat)  : Nat → Nat → Int32 → Int32 → Int32 → Int32 → am_Mem → Option (Unit × am_Mem)
  | 0 => fun _ _ _ _ _ _ => none
  | i + 1 => fn12_laysOn_b18B N (fn12_laysOn_b18 N  i)
def fn12_laysOn_b0 (N : Nat)  (r0 : Nat) (x1 : Int32) (x2 : Int32) (M : am_Mem) : Option (Unit × am_Mem) :=
  am_ck (am_k M r0 12) (am_bd (fn12_notchAt N M r0 x1) (fun v2 M3 => am_ck (am_k M3 r0 12) (am_ck (am_k M3 (am_R M3 r0 32) 14) (am_ck (am_in (x1 + (1 : Int32)) (am_L M3 (am_R M3 r0 32))) (fn12_laysOn_b18 N  N r0 x1 x2 v2 (0 : Int32) (am_wI M3 (am_R M3 r0 32) (x1 + (1 : Int32)).toNatClampNeg (0 : Int32)))))))
def fn12_laysOn (N : Nat) (M : am_Mem) (r0 : Nat) (x1 : Int32) (x2 : Int32) : Option (Unit × am_Mem) := fn12_laysOn_b0 N r0 x1 x2 M
def rm12_laysOn : Room := { frames := 2, cells := 0, slots := 0, locals := 44 }
set_option maxRecDepth 20000 in
theorem sn12_laysOn_b125 {l : Launch} {G : am_G} {M' : am_Mem} {N : Nat} {k18 : Nat → Int32 → Int32 → Int32 → Int32 → am_Mem → Option (Unit × am_Mem)} (cx : am_Ctx l rm12_laysOn yX12_laysOn cX12_laysOn 6 none none M' 0 0 G) (hk18 : ∀ (r0 : Nat) (x1 : Int32) (x2 : Int32) (x3 : Int32) (x4 : Int32) (M : am_Mem), k18 r0 x1 x2 x3 x4 M = some ((), M') → G 18 [(0, .inr (.inr (.inl r0))), (1, .inl x1), (2, .inl x2), (3, .inl x3), (4, .inl x4)] [] M 0 0) {r0 : Nat} {x1 : Int32} {x2 : Int32} {x3 : Int32} {x4 : Int32} {M : am_Mem} (hres : fn12_laysOn_b125 N k18 r0 x1 x2 x3 x4 M = some ((), M')) : G 125 [(0, .inr (.inr (.inl r0))), (1, .inl x1), (2, .inl x2), (3, .inl x3), (4, .inl x4)] [] M 0 0 := by
  unfold fn12_laysOn_b125 at hres
  refine am_iincw cx (lv' := [(0, .inr (.inr (.inl r0))), (1, .inl x1), (2, .inl x2), (3, .inl x3), (4, .inl (x4 + (1 : Int32)))]) (w := (1 : Int32)) 4 dX12_laysOn_125 (by decide) rfl (Nat.le_of_ble_eq_true rfl) rfl ?_
  refine am_goto cx (tgt := 18) dX12_laysOn_128 (by decide) ?_
  exact hk18 _ _ _ _ _ _ hres
set_option maxRecDepth 20000 in
theorem sn12_laysOn_b38 {l : Launch} {G : am_G} {M' : am_Mem} {N : Nat} {k18 : Nat → Int32 → Int32 → Int32 → Int32 → am_Mem → Option (Unit × am_Mem)} (cx : am_Ctx l rm12_laysOn yX12_laysOn cX12_laysOn 6 none none M' 0 0 G) (hk18 : ∀ (r0 : Nat) (x1 : Int32) (x2 : Int32) (x3 : Int32) (x4 : Int32) (M : am_Mem), k18 r0 x1 x2 x3 x4 M = some ((), M') → G 18 [(0, .inr (.inr (.inl r0))), (1, .inl x1), (2, .inl x2), (3, .inl x3), (4, .inl x4)] [] M 0 0) {r0 : Nat} {x1 : Int32} {x2 : Int32} {x3 : Int32} {x4 : Int32} {x5 : Int32} {M : am_Mem} (hres : fn12_laysOn_b38 N k18 r0 x1 x2 x3 x4 x5 M = some ((), M')) : G 38 [(0, .inr (.inr (.inl r0))), (1, .inl x1), (2, .inl x2), (3, .inl x3), (4, .inl x4), (5, .inl x5)] [] M 0 0 := by
  unfold fn12_laysOn_b38 at hres
  refine am_iload cx 4 dX12_laysOn_38 rfl ?_
  refine am_iload_n cx 3 dX12_laysOn_40 rfl ?_
  refine am_icmp_eq cx (tgt := 68) dX12_laysOn_41 (by decide) (fun h => ?_) (fun h => ?_)
  · have hres := am_ifp h hres
    refine am_aload_n cx 0 dX12_laysOn_68 rfl ?_
    refine am_iload_n cx 1 dX12_laysOn_69 rfl ?_
    refine am_iconst cx (v := (1 : Int32)) dX12_laysOn_70 (by decide) ?_
    refine am_iadd cx dX12_laysOn_71 ?_
    refine am_aload_n cx 0 dX12_laysOn_72 rfl ?_
    obtain ⟨q1, hres⟩ := am_ck_some hres
    refine am_getR cx dX12_laysOn_73 flX12_73 (am_ke q1) ?_
    refine am_iload cx 5 dX12_laysOn_76 rfl ?_
    obtain ⟨q2, hres⟩ := am_ck_some hres
    obtain ⟨q3, hres⟩ := am_ck_some hres
    refine am_iald cx dX12_laysOn_78 (am_ke q2) q3 ?_
    refine am_aload_n cx 0 dX12_laysOn_79 rfl ?_
    refine am_getR cx dX12_laysOn_80 flX12_76 (am_ke q1) ?_
    refine am_iload cx 5 dX12_laysOn_83 rfl ?_
    obtain ⟨q4, hres⟩ := am_ck_some hres
    obtain ⟨q5, hres⟩ := am_ck_some hres
    refine am_iald cx dX12_laysOn_85 (am_ke q4) q5 ?_
    refine am_iload_n cx 2 dX12_laysOn_86 rfl ?_
    refine am_iadd cx dX12_laysOn_87 ?_
    obtain ⟨v6, M7, q8, hres⟩ := am_bd_some hres
    refine am_callV0 cx [.inl (x1 + (1 : Int32)), .inl (am_I M (am_R M r0 33) x5.toNatClampNeg), .inl ((am_I M (am_R M r0 34) x5.toNatClampNeg) + x2)] dX12_laysOn_88 cvX12_219 (mt12_appends q8) (am_ke q1) ⟨rfl, rfl, Nat.le_of_ble_eq_true rfl, Nat.le_of_ble_eq_true rfl⟩ rfl (Nat.le_of_ble_eq_true rfl) ⟨Nat.le_of_ble_eq_true rfl, Nat.le_of_ble_eq_true rfl⟩ ?_
    refine am_iload_n cx 2 dX12_laysOn_91 rfl ?_
    refine am_aload_n cx 0 dX12_laysOn_92 rfl ?_
    refine am_iload_n cx 1 dX12_laysOn_93 rfl ?_
    refine am_iload cx 4 dX12_laysOn_94 rfl ?_
    obtain ⟨q9, hres⟩ := am_ck_some hres
    obtain ⟨v10, M11, q12, hres⟩ := am_bd_some hres
    refine am_callV1 cx [.inl x1, .inl x4] dX12_laysOn_96 cvX12_223 (mt12_widthOf q12) (am_ke q9) ⟨rfl, rfl, Nat.le_of_ble_eq_true rfl, Nat.le_of_ble_eq_true rfl⟩ rfl (Nat.le_of_ble_eq_true rfl) ⟨Nat.le_of_ble_eq_true rfl, Nat.le_of_ble_eq_true rfl⟩ ?_
    refine am_icmp_ge cx (tgt := 125) dX12_laysOn_99 (by decide) (fun h => ?_) (fun h => ?_)
    · have hres := am_ifp h hres
      refine am_sub cx [0, 1, 2, 3, 4] rfl ?_
      exact sn12_laysOn_b125 cx hk18 hres
    · have hres := am_ifn h hres
      refine am_aload_n cx 0 dX12_laysOn_102 rfl ?_
      refine am_iload_n cx 1 dX12_laysOn_103 rfl ?_
      refine am_iconst cx (v := (1 : Int32)) dX12_laysOn_104 (by decide) ?_
      refine am_iadd cx dX12_laysOn_105 ?_
      refine am_aload_n cx 0 dX12_laysOn_106 rfl ?_
      obtain ⟨q13, hres⟩ := am_ck_some hres
      refine am_getR cx dX12_laysOn_107 flX12_73 (am_ke q13) ?_
      refine am_iload cx 5 dX12_laysOn_110 rfl ?_
      obtain ⟨q14, hres⟩ := am_ck_some hres
      obtain ⟨q15, hres⟩ := am_ck_some hres
      refine am_iald cx dX12_laysOn_112 (am_ke q14) q15 ?_
      refine am_iload_n cx 2 dX12_laysOn_113 rfl ?_
      refine am_iadd cx dX12_laysOn_114 ?_
      refine am_aload_n cx 0 dX12_laysOn_115 rfl ?_
      refine am_getR cx dX12_laysOn_116 flX12_76 (am_ke q13) ?_
      refine am_iload cx 5 dX12_laysOn_119 rfl ?_
      obtain ⟨q16, hres⟩ := am_ck_some hres
      obtain ⟨q17, hres⟩ := am_ck_some hres
      refine am_iald cx dX12_laysOn_121 (am_ke q16) q17 ?_
      obtain ⟨v18, M19, q20, hres⟩ := am_bd_some hres
      refine am_callV0 cx [.inl (x1 + (1 : Int32)), .inl ((am_I M11 (am_R M11 r0 33) x5.toNatClampNeg) + x2), .inl (am_I M11 (am_R M11 r0 34) x5.toNatClampNeg)] dX12_laysOn_122 cvX12_219 (mt12_appends q20) (am_ke q13) ⟨rfl, rfl, Nat.le_of_ble_eq_true rfl, Nat.le_of_ble_eq_true rfl⟩ rfl (Nat.le_of_ble_eq_true rfl) ⟨Nat.le_of_ble_eq_true rfl, Nat.le_of_ble_eq_true rfl⟩ ?_
      refine am_sub cx [0, 1, 2, 3, 4] rfl ?_
      exact sn12_laysOn_b125 cx hk18 hres
  · have hres := am_ifn h hres
    refine am_aload_n cx 0 dX12_laysOn_44 rfl ?_
    refine am_iload_n cx 1 dX12_laysOn_45 rfl ?_
    refine am_iconst cx (v := (1 : Int32)) dX12_laysOn_46 (by decide) ?_
    refine am_iadd cx dX12_laysOn_47 ?_
    refine am_aload_n cx 0 dX12_laysOn_48 rfl ?_
    obtain ⟨q21, hres⟩ := am_ck_some hres
    refine am_getR cx dX12_laysOn_49 flX12_73 (am_ke q21) ?_
    refine am_iload cx 5 dX12_laysOn_52 rfl ?_
    obtain ⟨q22, hres⟩ := am_ck_some hres
    obtain ⟨q23, hres⟩ := am_ck_some hres
    refine am_iald cx dX12_laysOn_54 (am_ke q22) q23 ?_
    refine am_aload_n cx 0 dX12_laysOn_55 rfl ?_
    refine am_getR cx dX12_laysOn_56 flX12_76 (am_ke q21) ?_
    refine am_iload cx 5 dX12_laysOn_59 rfl ?_
    obtain ⟨q24, hres⟩ := am_ck_some hres
    obtain ⟨q25, hres⟩ := am_ck_some hres
    refine am_iald cx dX12_laysOn_61 (am_ke q24) q25 ?_
    obtain ⟨v26, M27, q28, hres⟩ := am_bd_some hres
    refine am_callV0 cx [.inl (x1 + (1 : Int32)), .inl (am_I M (am_R M r0 33) x5.toNatClampNeg), .inl (am_I M (am_R M r0 34) x5.toNatClampNeg)] dX12_laysOn_62 cvX12_219 (mt12_appends q28) (am_ke q21) ⟨rfl, rfl, Nat.le_of_ble_eq_true rfl, Nat.le_of_ble_eq_true rfl⟩ rfl (Nat.le_of_ble_eq_true rfl) ⟨Nat.le_of_ble_eq_true rfl, Nat.le_of_ble_eq_true rfl⟩ ?_
    refine am_goto cx (tgt := 125) dX12_laysOn_65 (by decide) ?_
    refine am_sub cx [0, 1, 2, 3, 4] rfl ?_
    exact sn12_laysOn_b125 cx hk18 hres
set_option maxRecDepth 20000 in
theorem sn12_laysOn_b18B {l : Launch} {G : am_G} {M' : am_Mem} {N : Nat} {k18 : Nat → Int32 → Int32 → Int32 → Int32 → am_Mem → Option (Unit × am_Mem)} (cx : am_Ctx l rm12_laysOn yX12_laysOn cX12_laysOn 6 none none M' 0 0 G) (hk18 : ∀ (r0 : Nat) (x1 : Int32) (x2 : Int32) (x3 : Int32) (x4 : Int32) (M : am_Mem), k18 r0 x1 x2 x3 x4 M = some ((), M') → G 18 [(0, .inr (.inr (.inl r0))), (1, .inl x1), (2, .inl x2), (3, .inl x3), (4, .inl x4)] [] M 0 0) {r0 : Nat} {x1 : Int32} {x2 : Int32} {x3 : Int32} {x4 : Int32} {M : am_Mem} (hres : fn12_laysOn_b18B N k18 r0 x1 x2 x3 x4 M = some ((), M')) : G 18 [(0, .inr (.inr (.inl r0))), (1, .inl x1), (2, .inl x2), (3, .inl x3), (4, .inl x4)] [] M 0 0 := by
  unfold fn12_laysOn_b18B at hres
  refine am_iload cx 4 dX12_laysOn_18 rfl ?_
  refine am_aload_n cx 0 dX12_laysOn_20 rfl ?_
  obtain ⟨q1, hres⟩ := am_ck_some hres
  refine am_getR cx dX12_laysOn_21 flX12_70 (am_ke q1) ?_
  refine am_iload_n cx 1 dX12_laysOn_24 rfl ?_
  obtain ⟨q2, hres⟩ := am_ck_some hres
  obtain ⟨q3, hres⟩ := am_ck_some hres
  refine am_iald cx dX12_laysOn_25 (am_ke q2) q3 ?_
  refine am_icmp_ge cx (tgt := 131) dX12_laysOn_26 (by decide) (fun h => ?_) (fun h => ?_)
  · have hres := am_ifp h hres
    obtain ⟨-, rfl⟩ := am_fin hres
    exact am_vret cx dX12_laysOn_131
  · have hres := am_ifn h hres
    refine am_bipush cx (v := (42 : Int32)) dX12_laysOn_29 (by decide) ?_
    refine am_iload_n cx 1 dX12_laysOn_31 rfl ?_
    refine am_imul cx dX12_laysOn_32 ?_
    refine am_iload cx 4 dX12_laysOn_33 rfl ?_
    refine am_iadd cx dX12_laysOn_35 ?_
    refine am_istore cx (lv' := [(0, .inr (.inr (.inl r0))), (1, .inl x1), (2, .inl x2), (3, .inl x3), (4, .inl x4), (5, .inl (((42 : Int32) * x1) + x4))]) dX12_laysOn_36 (Nat.le_of_ble_eq_true rfl) rfl ?_
    exact sn12_laysOn_b38 cx hk18 hres
set_option maxRecDepth 20000 in
theorem sn12_laysOn_b18 {l : Launch} {G : am_G} {M' : am_Mem} {N : Nat}  (cx : am_Ctx l rm12_laysOn yX12_laysOn cX12_laysOn 6 none none M' 0 0 G)  (i : Nat) : ∀ (r0 : Nat) (x1 : Int32) (x2 : Int32) (x3 : Int32) (x4 : Int32) (M : am_Mem), fn12_laysOn_b18 N  i r0 x1 x2 x3 x4 M = some ((), M') → G 18 [(0, .inr (.inr (.inl r0))), (1, .inl x1), (2, .inl x2), (3, .inl x3), (4, .inl x4)] [] M 0 0 := by
  induction i with
  | zero => intro r0 x1 x2 x3 x4 M hres; exact am_no hres
  | succ i ih => intro r0 x1 x2 x3 x4 M hres; exact sn12_laysOn_b18B cx ih hres
set_option maxRecDepth 20000 in
theorem sn12_laysOn_b0 {l : Launch} {G : am_G} {M' : am_Mem} {N : Nat}  (cx : am_Ctx l rm12_laysOn yX12_laysOn cX12_laysOn 6 none none M' 0 0 G)  {r0 : Nat} {x1 : Int32} {x2 : Int32} {M : am_Mem} (hres : fn12_laysOn_b0 N  r0 x1 x2 M = some ((), M')) : G 0 [(0, .inr (.inr (.inl r0))), (1, .inl x1), (2, .inl x2)] [] M 0 0 := by
  unfold fn12_laysOn_b0 at hres
  refine am_aload_n cx 0 dX12_laysOn_0 rfl ?_
  refine am_iload_n cx 1 dX12_laysOn_1 rfl ?_
  obtain ⟨q1, hres⟩ := am_ck_some hres
  obtain ⟨v2, M3, q4, hres⟩ := am_bd_some hres
  refine am_callV1 cx [.inl x1] dX12_laysOn_2 cvX12_216 (mt12_notchAt q4) (am_ke q1) ⟨rfl, rfl, Nat.le_of_ble_eq_true rfl, Nat.le_of_ble_eq_true rfl⟩ rfl (Nat.le_of_ble_eq_true rfl) ⟨Nat.le_of_ble_eq_true rfl, Nat.le_of_ble_eq_true rfl⟩ ?_
  refine am_istore_n cx (lv' := [(0, .inr (.inr (.inl r0))), (1, .inl x1), (2, .inl x2), (3, .inl v2)]) dX12_laysOn_5 (Nat.le_of_ble_eq_true rfl) rfl ?_
  refine am_aload_n cx 0 dX12_laysOn_6 rfl ?_
  obtain ⟨q5, hres⟩ := am_ck_some hres
  refine am_getR cx dX12_laysOn_7 flX12_70 (am_ke q5) ?_
  refine am_iload_n cx 1 dX12_laysOn_10 rfl ?_
  refine am_iconst cx (v := (1 : Int32)) dX12_laysOn_11 (by decide) ?_
  refine am_iadd cx dX12_laysOn_12 ?_
  refine am_iconst cx (v := (0 : Int32)) dX12_laysOn_13 (by decide) ?_
  obtain ⟨q6, hres⟩ := am_ck_some hres
  obtain ⟨q7, hres⟩ := am_ck_some hres
  refine am_iast cx dX12_laysOn_14 (am_ke q6) q7  ?_
  refine am_iconst cx (v := (0 : Int32)) dX12_laysOn_15 (by decide) ?_
  refine am_istore cx (lv' := [(0, .inr (.inr (.inl r0))), (1, .inl x1), (2, .inl x2), (3, .inl v2), (4, .inl (0 : Int32))]) dX12_laysOn_16 (Nat.le_of_ble_eq_true rfl) rfl ?_
  exact sn12_laysOn_b18 cx  N _ _ _ _ _ _ hres
set_option maxRecDepth 20000 in
theorem mt12_laysOn {l : Launch} {M M' : am_Mem} {N : Nat} {r0 : Nat} {x1 : Int32} {x2 : Int32} (h : fn12_laysOn N M r0 x1 x2 = some ((), M')) : am_Met l yX12_laysOn cX12_laysOn 6 none rm12_laysOn 0 0 [.inr (.inr (.inl r0)), .inl x1, .inl x2] M none M' := am_mk (by decide) (Nat.le_of_ble_eq_true rfl) (fun G cx => (sn12_laysOn_b0 cx h))
-- SquareCutsModel.squares
def fn12_squares_b12 (N : Nat)  (r0 : Nat) (x1 : Int32) (x2 : Int32) (x4 : Int32) (x5 : Int32) (M : am_Mem) : Option (Unit × am_Mem) :=
  am_ck (am_k M r0 12) (am_ck (am_k M (am_R M r0 33) 14) (am_ck (am_in x5 (am_L M (am_R M r0 33))) (am_bd (fn12_put M r0 x1 ((4 : Int32) + x2) (am_I M (am_R M r0 33) x5.toNatClampNeg)) (fun v4 M5 => am_ck (am_k M5 r0 12) (am_ck (am_k M5 (am_R M5 r0 34) 14) (am_ck (am_in x5 (am_L M5 (am_R M5 r0 34))) (am_bd (fn12_put M5 r0 x1 ((44 : Int32) + x2) (am_I M5 (am_R M5 r0 34) x5.toNatClampNeg)) (fun v10 M11 => am_ck (am_k M11 r0 12) (am_bd (fn12_put M11 r0 x1 ((84 : Int32) + x2) x4) (fun v14 M15 => some ((), M15)))))))))))
def fn12_squares_b0 (N : Nat)  (r0 : Nat) (x1 : Int32) (x2 : Int32) (x3 : Int32) (x4 : Int32) (M : am_Mem) : Option (Unit × am_Mem) :=
  am_ck (am_k M r0 12) (am_bd (fn12_notchAt N M r0 x3) (fun v2 M3 => fn12_squares_b12 N  r0 x1 x2 x4 (((42 : Int32) * x3) + v2) M3))
def fn12_squares (N : Nat) (M : am_Mem) (r0 : Nat) (x1 : Int32) (x2 : Int32) (x3 : Int32) (x4 : Int32) : Option (Unit × am_Mem) := fn12_squares_b0 N r0 x1 x2 x3 x4 M
def rm12_squares : Room := { frames := 1, cells := 0, slots := 0, locals := 23 }
set_option maxRecDepth 20000 in
theorem sn12_squares_b12 {l : Launch} {G : am_G} {M' : am_Mem} {N : Nat}  (cx : am_Ctx l rm12_squares yX12_squares cX12_squares 6 none none M' 0 0 G)  {r0 : Nat} {x1 : Int32} {x2 : Int32} {x4 : Int32} {x5 : Int32} {M : am_Mem} (hres : fn12_squares_b12 N  r0 x1 x2 x4 x5 M = some ((), M')) : G 12 [(0, .inr (.inr (.inl r0))), (1, .inl x1), (2, .inl x2), (4, .inl x4), (5, .inl x5)] [] M 0 0 := by
  unfold fn12_squares_b12 at hres
  refine am_aload_n cx 0 dX12_squares_12 rfl ?_
  refine am_iload_n cx 1 dX12_squares_13 rfl ?_
  refine am_iconst cx (v := (4 : Int32)) dX12_squares_14 (by decide) ?_
  refine am_iload_n cx 2 dX12_squares_15 rfl ?_
  refine am_iadd cx dX12_squares_16 ?_
  refine am_aload_n cx 0 dX12_squares_17 rfl ?_
  obtain ⟨q1, hres⟩ := am_ck_some hres
  refine am_getR cx dX12_squares_18 flX12_73 (am_ke q1) ?_
  refine am_iload cx 4 dX12_squares_21 rfl ?_
  obtain ⟨q2, hres⟩ := am_ck_some hres
  obtain ⟨q3, hres⟩ := am_ck_some hres
  refine am_iald cx dX12_squares_23 (am_ke q2) q3 ?_
  obtain ⟨v4, M5, q6, hres⟩ := am_bd_some hres
  refine am_callV0 cx [.inl x1, .inl ((4 : Int32) + x2), .inl (am_I M (am_R M r0 33) x5.toNatClampNeg)] dX12_squares_24 cvX12_226 (mt12_put q6) (am_ke q1) ⟨rfl, rfl, Nat.le_of_ble_eq_true rfl, Nat.le_of_ble_eq_true rfl⟩ rfl (Nat.le_of_ble_eq_true rfl) ⟨Nat.le_of_ble_eq_true rfl, Nat.le_of_ble_eq_true rfl⟩ ?_
  refine am_aload_n cx 0 dX12_squares_27 rfl ?_
  refine am_iload_n cx 1 dX12_squares_28 rfl ?_
  refine am_bipush cx (v := (44 : Int32)) dX12_squares_29 (by decide) ?_
  refine am_iload_n cx 2 dX12_squares_31 rfl ?_
  refine am_iadd cx dX12_squares_32 ?_
  refine am_aload_n cx 0 dX12_squares_33 rfl ?_
  obtain ⟨q7, hres⟩ := am_ck_some hres
  refine am_getR cx dX12_squares_34 flX12_76 (am_ke q7) ?_
  refine am_iload cx 4 dX12_squares_37 rfl ?_
  obtain ⟨q8, hres⟩ := am_ck_some hres
  obtain ⟨q9, hres⟩ := am_ck_some hres
  refine am_iald cx dX12_squares_39 (am_ke q8) q9 ?_
  obtain ⟨v10, M11, q12, hres⟩ := am_bd_some hres
  refine am_callV0 cx [.inl x1, .inl ((44 : Int32) + x2), .inl (am_I M5 (am_R M5 r0 34) x5.toNatClampNeg)] dX12_squares_40 cvX12_226 (mt12_put q12) (am_ke q7) ⟨rfl, rfl, Nat.le_of_ble_eq_true rfl, Nat.le_of_ble_eq_true rfl⟩ rfl (Nat.le_of_ble_eq_true rfl) ⟨Nat.le_of_ble_eq_true rfl, Nat.le_of_ble_eq_true rfl⟩ ?_
  refine am_aload_n cx 0 dX12_squares_43 rfl ?_
  refine am_iload_n cx 1 dX12_squares_44 rfl ?_
  refine am_bipush cx (v := (84 : Int32)) dX12_squares_45 (by decide) ?_
  refine am_iload_n cx 2 dX12_squares_47 rfl ?_
  refine am_iadd cx dX12_squares_48 ?_
  refine am_iload cx 3 dX12_squares_49 rfl ?_
  obtain ⟨q13, hres⟩ := am_ck_some hres
  obtain ⟨v14, M15, q16, hres⟩ := am_bd_some hres
  refine am_callV0 cx [.inl x1, .inl ((84 : Int32) + x2), .inl x4] dX12_squares_51 cvX12_226 (mt12_put q16) (am_ke q13) ⟨rfl, rfl, Nat.le_of_ble_eq_true rfl, Nat.le_of_ble_eq_true rfl⟩ rfl (Nat.le_of_ble_eq_true rfl) ⟨Nat.le_of_ble_eq_true rfl, Nat.le_of_ble_eq_true rfl⟩ ?_
  obtain ⟨-, rfl⟩ := am_fin hres
  exact am_vret cx dX12_squares_54
set_option maxRecDepth 20000 in
theorem sn12_squares_b0 {l : Launch} {G : am_G} {M' : am_Mem} {N : Nat}  (cx : am_Ctx l rm12_squares yX12_squares cX12_squares 6 none none M' 0 0 G)  {r0 : Nat} {x1 : Int32} {x2 : Int32} {x3 : Int32} {x4 : Int32} {M : am_Mem} (hres : fn12_squares_b0 N  r0 x1 x2 x3 x4 M = some ((), M')) : G 0 [(0, .inr (.inr (.inl r0))), (1, .inl x1), (2, .inl x2), (3, .inl x3), (4, .inl x4)] [] M 0 0 := by
  unfold fn12_squares_b0 at hres
  refine am_bipush cx (v := (42 : Int32)) dX12_squares_0 (by decide) ?_
  refine am_iload_n cx 3 dX12_squares_2 rfl ?_
  refine am_imul cx dX12_squares_3 ?_
  refine am_aload_n cx 0 dX12_squares_4 rfl ?_
  refine am_iload_n cx 3 dX12_squares_5 rfl ?_
  obtain ⟨q1, hres⟩ := am_ck_some hres
  obtain ⟨v2, M3, q4, hres⟩ := am_bd_some hres
  refine am_callV1 cx [.inl x3] dX12_squares_6 cvX12_216 (mt12_notchAt q4) (am_ke q1) ⟨rfl, rfl, Nat.le_of_ble_eq_true rfl, Nat.le_of_ble_eq_true rfl⟩ rfl (Nat.le_of_ble_eq_true rfl) ⟨Nat.le_of_ble_eq_true rfl, Nat.le_of_ble_eq_true rfl⟩ ?_
  refine am_iadd cx dX12_squares_9 ?_
  refine am_istore cx (lv' := [(0, .inr (.inr (.inl r0))), (1, .inl x1), (2, .inl x2), (3, .inl x3), (4, .inl x4), (5, .inl (((42 : Int32) * x3) + v2))]) dX12_squares_10 (Nat.le_of_ble_eq_true rfl) rfl ?_
  refine am_sub cx [0, 1, 2, 4, 5] rfl ?_
  exact sn12_squares_b12 cx  hres
set_option maxRecDepth 20000 in
theorem mt12_squares {l : Launch} {M M' : am_Mem} {N : Nat} {r0 : Nat} {x1 : Int32} {x2 : Int32} {x3 : Int32} {x4 : Int32} (h : fn12_squares N M r0 x1 x2 x3 x4 = some ((), M')) : am_Met l yX12_squares cX12_squares 6 none rm12_squares 0 0 [.inr (.inr (.inl r0)), .inl x1, .inl x2, .inl x3, .inl x4] M none M' := am_mk (by decide) (Nat.le_of_ble_eq_true rfl) (fun G cx => (sn12_squares_b0 cx h))
-- SquareCutsModel.fails
def fn12_fails_b2B (N : Nat) (k2 : Nat → Int32 → Int32 → am_Mem → Option (Unit × am_Mem)) (r0 : Nat) (x1 : Int32) (x2 : Int32) (M : am_Mem) : Option (Unit × am_Mem) :=
  if (124 : Int32) ≤ x2 then am_ck (am_k M r0 12) (am_bd (fn12_put M r0 x1 (3 : Int32) (1 : Int32)) (fun v2 M3 => some ((), M3))) else am_ck (am_k M r0 12) (am_bd (fn12_put M r0 x1 x2 (0 : Int32)) (fun v6 M7 => k2 r0 x1 (x2 + (1 : Int32)) M7))
def fn12_fails_b2 (N : Nat)  : Nat → Nat → Int32 → Int32 → am_Mem → Option (Unit × am_Mem)
  | 0 => fun _ _ _ _ => none
  | i + 1 => fn12_fails_b2B N (fn12_fails_b2 N  i)
def fn12_fails_b0 (N : Nat)  (r0 : Nat) (x1 : Int32) (M : am_Mem) : Option (Unit × am_Mem) :=
  fn12_fails_b2 N  N r0 x1 (0 : Int32) M
def fn12_fails (N : Nat) (M : am_Mem) (r0 : Nat) (x1 : Int32) : Option (Unit × am_Mem) := fn12_fails_b0 N r0 x1 M
def rm12_fails : Room := { frames := 1, cells := 0, slots := 0, locals := 23 }
set_option maxRecDepth 20000 in
theorem sn12_fails_b2B {l : Launch} {G : am_G} {M' : am_Mem} {N : Nat} {k2 : Nat → Int32 → Int32 → am_Mem → Option (Unit × am_Mem)} (cx : am_Ctx l rm12_fails yX12_fails cX12_fails 3 none none M' 0 0 G) (hk2 : ∀ (r0 : Nat) (x1 : Int32) (x2 : Int32) (M : am_Mem), k2 r0 x1 x2 M = some ((), M') → G 2 [(0, .inr (.inr (.inl r0))), (1, .inl x1), (2, .inl x2)] [] M 0 0) {r0 : Nat} {x1 : Int32} {x2 : Int32} {M : am_Mem} (hres : fn12_fails_b2B N k2 r0 x1 x2 M = some ((), M')) : G 2 [(0, .inr (.inr (.inl r0))), (1, .inl x1), (2, .inl x2)] [] M 0 0 := by
  unfold fn12_fails_b2B at hres
  refine am_iload_n cx 2 dX12_fails_2 rfl ?_
  refine am_bipush cx (v := (124 : Int32)) dX12_fails_3 (by decide) ?_
  refine am_icmp_ge cx (tgt := 21) dX12_fails_5 (by decide) (fun h => ?_) (fun h => ?_)
  · have hres := am_ifp h hres
    refine am_aload_n cx 0 dX12_fails_21 rfl ?_
    refine am_iload_n cx 1 dX12_fails_22 rfl ?_
    refine am_iconst cx (v := (3 : Int32)) dX12_fails_23 (by decide) ?_
    refine am_iconst cx (v := (1 : Int32)) dX12_fails_24 (by decide) ?_
    obtain ⟨q1, hres⟩ := am_ck_some hres
    obtain ⟨v2, M3, q4, hres⟩ := am_bd_some hres
    refine am_callV0 cx [.inl x1, .inl (3 : Int32), .inl (1 : Int32)] dX12_fails_25 cvX12_226 (mt12_put q4) (am_ke q1) ⟨rfl, rfl, Nat.le_of_ble_eq_true rfl, Nat.le_of_ble_eq_true rfl⟩ rfl (Nat.le_of_ble_eq_true rfl) ⟨Nat.le_of_ble_eq_true rfl, Nat.le_of_ble_eq_true rfl⟩ ?_
    obtain ⟨-, rfl⟩ := am_fin hres
    exact am_vret cx dX12_fails_28
  · have hres := am_ifn h hres
    refine am_aload_n cx 0 dX12_fails_8 rfl ?_
    refine am_iload_n cx 1 dX12_fails_9 rfl ?_
    refine am_iload_n cx 2 dX12_fails_10 rfl ?_
    refine am_iconst cx (v := (0 : Int32)) dX12_fails_11 (by decide) ?_
    obtain ⟨q5, hres⟩ := am_ck_some hres
    obtain ⟨v6, M7, q8, hres⟩ := am_bd_some hres
    refine am_callV0 cx [.inl x1, .inl x2, .inl (0 : Int32)] dX12_fails_12 cvX12_226 (mt12_put q8) (am_ke q5) ⟨rfl, rfl, Nat.le_of_ble_eq_true rfl, Nat.le_of_ble_eq_true rfl⟩ rfl (Nat.le_of_ble_eq_true rfl) ⟨Nat.le_of_ble_eq_true rfl, Nat.le_of_ble_eq_true rfl⟩ ?_
    refine am_iincw cx (lv' := [(0, .inr (.inr (.inl r0))), (1, .inl x1), (2, .inl (x2 + (1 : Int32)))]) (w := (1 : Int32)) 2 dX12_fails_15 (by decide) rfl (Nat.le_of_ble_eq_true rfl) rfl ?_
    refine am_goto cx (tgt := 2) dX12_fails_18 (by decide) ?_
    exact hk2 _ _ _ _ hres
set_option maxRecDepth 20000 in
theorem sn12_fails_b2 {l : Launch} {G : am_G} {M' : am_Mem} {N : Nat}  (cx : am_Ctx l rm12_fails yX12_fails cX12_fails 3 none none M' 0 0 G)  (i : Nat) : ∀ (r0 : Nat) (x1 : Int32) (x2 : Int32) (M : am_Mem), fn12_fails_b2 N  i r0 x1 x2 M = some ((), M') → G 2 [(0, .inr (.inr (.inl r0))), (1, .inl x1), (2, .inl x2)] [] M 0 0 := by
  induction i with
  | zero => intro r0 x1 x2 M hres; exact am_no hres
  | succ i ih => intro r0 x1 x2 M hres; exact sn12_fails_b2B cx ih hres
set_option maxRecDepth 20000 in
theorem sn12_fails_b0 {l : Launch} {G : am_G} {M' : am_Mem} {N : Nat}  (cx : am_Ctx l rm12_fails yX12_fails cX12_fails 3 none none M' 0 0 G)  {r0 : Nat} {x1 : Int32} {M : am_Mem} (hres : fn12_fails_b0 N  r0 x1 M = some ((), M')) : G 0 [(0, .inr (.inr (.inl r0))), (1, .inl x1)] [] M 0 0 := by
  unfold fn12_fails_b0 at hres
  refine am_iconst cx (v := (0 : Int32)) dX12_fails_0 (by decide) ?_
  refine am_istore_n cx (lv' := [(0, .inr (.inr (.inl r0))), (1, .inl x1), (2, .inl (0 : Int32))]) dX12_fails_1 (Nat.le_of_ble_eq_true rfl) rfl ?_
  exact sn12_fails_b2 cx  N _ _ _ _ hres
set_option maxRecDepth 20000 in
theorem mt12_fails {l : Launch} {M M' : am_Mem} {N : Nat} {r0 : Nat} {x1 : Int32} (h : fn12_fails N M r0 x1 = some ((), M')) : am_Met l yX12_fails cX12_fails 3 none rm12_fails 0 0 [.inr (.inr (.inl r0)), .inl x1] M none M' := am_mk (by decide) (Nat.le_of_ble_eq_true rfl) (fun G cx => (sn12_fails_b0 cx h))
-- SquareCutsModel.groupSum
def fn12_groupSum_b65 (N : Nat)  (x3 : Int32) (M : am_Mem) : Option (Int32 × am_Mem) :=
  some (x3, M)
def fn12_groupSum_b59 (N : Nat) (k18 : Nat → Int32 → Int32 → Int32 → am_Mem → Option (Int32 × am_Mem)) (r0 : Nat) (x1 : Int32) (x3 : Int32) (x4 : Int32) (M : am_Mem) : Option (Int32 × am_Mem) :=
  k18 r0 x1 x3 (x4 + (1 : Int32)) M
def fn12_groupSum_b18B (N : Nat) (k18 : Nat → Int32 → Int32 → Int32 → am_Mem → Option (Int32 × am_Mem)) (r0 : Nat) (x1 : Int32) (x3 : Int32) (x4 : Int32) (M : am_Mem) : Option (Int32 × am_Mem) :=
  am_ck (am_k M r0 12) (am_ck (am_k M (am_R M r0 14) 14) (am_ck (am_in x1 (am_L M (am_R M r0 14))) (if (am_I M (am_R M r0 14) x1.toNatClampNeg) ≤ x4 then fn12_groupSum_b65 N  x3 M else am_ck (am_k M (am_R M r0 16) 14) (am_ck (am_in (((29 : Int32) * x1) + x4) (am_L M (am_R M r0 16))) (if (am_I M (am_R M r0 16) (((29 : Int32) * x1) + x4).toNatClampNeg) ≤ 0 then fn12_groupSum_b65 N  x3 M else am_ck (am_in (((29 : Int32) * x1) + x4) (am_L M (am_R M r0 16))) (fn12_groupSum_b59 N k18 r0 x1 (x3 + (am_I M (am_R M r0 16) (((29 : Int32) * x1) + x4).toNatClampNeg)) x4 M))))))
def fn12_groupSum_b18 (N : Nat)  : Nat → Nat → Int32 → Int32 → Int32 → am_Mem → Option (Int32 × am_Mem)
  | 0 => fun _ _ _ _ _ => none
  | i + 1 => fn12_groupSum_b18B N (fn12_groupSum_b18 N  i)
def fn12_groupSum_b13 (N : Nat)  (r0 : Nat) (x1 : Int32) (x2 : Int32) (x3 : Int32) (M : am_Mem) : Option (Int32 × am_Mem) :=
  fn12_groupSum_b18 N  N r0 x1 x3 (x2 + (1 : Int32)) M
def fn12_groupSum_b0 (N : Nat)  (r0 : Nat) (x1 : Int32) (x2 : Int32) (M : am_Mem) : Option (Int32 × am_Mem) :=
  am_ck (am_k M r0 12) (am_ck (am_k M (am_R M r0 16) 14) (am_ck (am_in (((29 : Int32) * x1) + x2) (am_L M (am_R M r0 16))) (fn12_groupSum_b13 N  r0 x1 x2 (-(am_I M (am_R M r0 16) (((29 : Int32) * x1) + x2).toNatClampNeg)) M)))
def fn12_groupSum (N : Nat) (M : am_Mem) (r0 : Nat) (x1 : Int32) (x2 : Int32) : Option (Int32 × am_Mem) := fn12_groupSum_b0 N r0 x1 x2 M
def rm12_groupSum : Room := { frames := 0, cells := 0, slots := 0, locals := 0 }
set_option maxRecDepth 20000 in
theorem sn12_groupSum_b65 {l : Launch} {G : am_G} {v : Int32} {M' : am_Mem} {N : Nat}  (cx : am_Ctx l rm12_groupSum yX12_groupSum cX12_groupSum 5 (some .int) (some (.inl v)) M' 0 0 G)  {x3 : Int32} {M : am_Mem} (hres : fn12_groupSum_b65 N  x3 M = some (v, M')) : G 65 [(3, .inl x3)] [] M 0 0 := by
  unfold fn12_groupSum_b65 at hres
  refine am_iload_n cx 0 dX12_groupSum_65 rfl ?_
  obtain ⟨rfl, rfl⟩ := am_fin hres
  exact am_iret cx dX12_groupSum_66
set_option maxRecDepth 20000 in
theorem sn12_groupSum_b59 {l : Launch} {G : am_G} {v : Int32} {M' : am_Mem} {N : Nat} {k18 : Nat → Int32 → Int32 → Int32 → am_Mem → Option (Int32 × am_Mem)} (cx : am_Ctx l rm12_groupSum yX12_groupSum cX12_groupSum 5 (some .int) (some (.inl v)) M' 0 0 G) (hk18 : ∀ (r0 : Nat) (x1 : Int32) (x3 : Int32) (x4 : Int32) (M : am_Mem), k18 r0 x1 x3 x4 M = some (v, M') → G 18 [(0, .inr (.inr (.inl r0))), (1, .inl x1), (3, .inl x3), (4, .inl x4)] [] M 0 0) {r0 : Nat} {x1 : Int32} {x3 : Int32} {x4 : Int32} {M : am_Mem} (hres : fn12_groupSum_b59 N k18 r0 x1 x3 x4 M = some (v, M')) : G 59 [(0, .inr (.inr (.inl r0))), (1, .inl x1), (3, .inl x3), (4, .inl x4)] [] M 0 0 := by
  unfold fn12_groupSum_b59 at hres
  refine am_iincw cx (lv' := [(0, .inr (.inr (.inl r0))), (1, .inl x1), (3, .inl x3), (4, .inl (x4 + (1 : Int32)))]) (w := (1 : Int32)) 3 dX12_groupSum_59 (by decide) rfl (Nat.le_of_ble_eq_true rfl) rfl ?_
  refine am_goto cx (tgt := 18) dX12_groupSum_62 (by decide) ?_
  exact hk18 _ _ _ _ _ hres
set_option maxRecDepth 20000 in
theorem sn12_groupSum_b18B {l : Launch} {G : am_G} {v : Int32} {M' : am_Mem} {N : Nat} {k18 : Nat → Int32 → Int32 → Int32 → am_Mem → Option (Int32 × am_Mem)} (cx : am_Ctx l rm12_groupSum yX12_groupSum cX12_groupSum 5 (some .int) (some (.inl v)) M' 0 0 G) (hk18 : ∀ (r0 : Nat) (x1 : Int32) (x3 : Int32) (x4 : Int32) (M : am_Mem), k18 r0 x1 x3 x4 M = some (v, M') → G 18 [(0, .inr (.inr (.inl r0))), (1, .inl x1), (3, .inl x3), (4, .inl x4)] [] M 0 0) {r0 : Nat} {x1 : Int32} {x3 : Int32} {x4 : Int32} {M : am_Mem} (hres : fn12_groupSum_b18B N k18 r0 x1 x3 x4 M = some (v, M')) : G 18 [(0, .inr (.inr (.inl r0))), (1, .inl x1), (3, .inl x3), (4, .inl x4)] [] M 0 0 := by
  unfold fn12_groupSum_b18B at hres
  refine am_iload cx 3 dX12_groupSum_18 rfl ?_
  refine am_aload_n cx 0 dX12_groupSum_20 rfl ?_
  obtain ⟨q1, hres⟩ := am_ck_some hres
  refine am_getR cx dX12_groupSum_21 flX12_21 (am_ke q1) ?_
  refine am_iload_n cx 1 dX12_groupSum_24 rfl ?_
  obtain ⟨q2, hres⟩ := am_ck_some hres
  obtain ⟨q3, hres⟩ := am_ck_some hres
  refine am_iald cx dX12_groupSum_25 (am_ke q2) q3 ?_
  refine am_icmp_ge cx (tgt := 65) dX12_groupSum_26 (by decide) (fun h => ?_) (fun h => ?_)
  · have hres := am_ifp h hres
    refine am_sub cx [2] rfl ?_
    exact sn12_groupSum_b65 cx  hres
  · have hres := am_ifn h hres
    refine am_aload_n cx 0 dX12_groupSum_29 rfl ?_
    refine am_getR cx dX12_groupSum_30 flX12_27 (am_ke q1) ?_
    refine am_bipush cx (v := (29 : Int32)) dX12_groupSum_33 (by decide) ?_
    refine am_iload_n cx 1 dX12_groupSum_35 rfl ?_
    refine am_imul cx dX12_groupSum_36 ?_
    refine am_iload cx 3 dX12_groupSum_37 rfl ?_
    refine am_iadd cx dX12_groupSum_39 ?_
    obtain ⟨q4, hres⟩ := am_ck_some hres
    obtain ⟨q5, hres⟩ := am_ck_some hres
    refine am_iald cx dX12_groupSum_40 (am_ke q4) q5 ?_
    refine am_if_le cx (tgt := 65) dX12_groupSum_41 (by decide) (fun h => ?_) (fun h => ?_)
    · have hres := am_ifp h hres
      refine am_sub cx [2] rfl ?_
      exact sn12_groupSum_b65 cx  hres
    · have hres := am_ifn h hres
      refine am_iload_n cx 2 dX12_groupSum_44 rfl ?_
      refine am_aload_n cx 0 dX12_groupSum_45 rfl ?_
      refine am_getR cx dX12_groupSum_46 flX12_27 (am_ke q1) ?_
      refine am_bipush cx (v := (29 : Int32)) dX12_groupSum_49 (by decide) ?_
      refine am_iload_n cx 1 dX12_groupSum_51 rfl ?_
      refine am_imul cx dX12_groupSum_52 ?_
      refine am_iload cx 3 dX12_groupSum_53 rfl ?_
      refine am_iadd cx dX12_groupSum_55 ?_
      obtain ⟨q6, hres⟩ := am_ck_some hres
      refine am_iald cx dX12_groupSum_56 (am_ke q4) q6 ?_
      refine am_iadd cx dX12_groupSum_57 ?_
      refine am_istore_n cx (lv' := [(0, .inr (.inr (.inl r0))), (1, .inl x1), (3, .inl (x3 + (am_I M (am_R M r0 16) (((29 : Int32) * x1) + x4).toNatClampNeg))), (4, .inl x4)]) dX12_groupSum_58 (Nat.le_of_ble_eq_true rfl) rfl ?_
      exact sn12_groupSum_b59 cx hk18 hres
set_option maxRecDepth 20000 in
theorem sn12_groupSum_b18 {l : Launch} {G : am_G} {v : Int32} {M' : am_Mem} {N : Nat}  (cx : am_Ctx l rm12_groupSum yX12_groupSum cX12_groupSum 5 (some .int) (some (.inl v)) M' 0 0 G)  (i : Nat) : ∀ (r0 : Nat) (x1 : Int32) (x3 : Int32) (x4 : Int32) (M : am_Mem), fn12_groupSum_b18 N  i r0 x1 x3 x4 M = some (v, M') → G 18 [(0, .inr (.inr (.inl r0))), (1, .inl x1), (3, .inl x3), (4, .inl x4)] [] M 0 0 := by
  induction i with
  | zero => intro r0 x1 x3 x4 M hres; exact am_no hres
  | succ i ih => intro r0 x1 x3 x4 M hres; exact sn12_groupSum_b18B cx ih hres
set_option maxRecDepth 20000 in
theorem sn12_groupSum_b13 {l : Launch} {G : am_G} {v : Int32} {M' : am_Mem} {N : Nat}  (cx : am_Ctx l rm12_groupSum yX12_groupSum cX12_groupSum 5 (some .int) (some (.inl v)) M' 0 0 G)  {r0 : Nat} {x1 : Int32} {x2 : Int32} {x3 : Int32} {M : am_Mem} (hres : fn12_groupSum_b13 N  r0 x1 x2 x3 M = some (v, M')) : G 13 [(0, .inr (.inr (.inl r0))), (1, .inl x1), (2, .inl x2), (3, .inl x3)] [] M 0 0 := by
  unfold fn12_groupSum_b13 at hres
  refine am_iload_n cx 2 dX12_groupSum_13 rfl ?_
  refine am_iconst cx (v := (1 : Int32)) dX12_groupSum_14 (by decide) ?_
  refine am_iadd cx dX12_groupSum_15 ?_
  refine am_istore cx (lv' := [(0, .inr (.inr (.inl r0))), (1, .inl x1), (2, .inl x2), (3, .inl x3), (4, .inl (x2 + (1 : Int32)))]) dX12_groupSum_16 (Nat.le_of_ble_eq_true rfl) rfl ?_
  refine am_sub cx [0, 1, 3, 4] rfl ?_
  exact sn12_groupSum_b18 cx  N _ _ _ _ _ hres
set_option maxRecDepth 20000 in
theorem sn12_groupSum_b0 {l : Launch} {G : am_G} {v : Int32} {M' : am_Mem} {N : Nat}  (cx : am_Ctx l rm12_groupSum yX12_groupSum cX12_groupSum 5 (some .int) (some (.inl v)) M' 0 0 G)  {r0 : Nat} {x1 : Int32} {x2 : Int32} {M : am_Mem} (hres : fn12_groupSum_b0 N  r0 x1 x2 M = some (v, M')) : G 0 [(0, .inr (.inr (.inl r0))), (1, .inl x1), (2, .inl x2)] [] M 0 0 := by
  unfold fn12_groupSum_b0 at hres
  refine am_aload_n cx 0 dX12_groupSum_0 rfl ?_
  obtain ⟨q1, hres⟩ := am_ck_some hres
  refine am_getR cx dX12_groupSum_1 flX12_27 (am_ke q1) ?_
  refine am_bipush cx (v := (29 : Int32)) dX12_groupSum_4 (by decide) ?_
  refine am_iload_n cx 1 dX12_groupSum_6 rfl ?_
  refine am_imul cx dX12_groupSum_7 ?_
  refine am_iload_n cx 2 dX12_groupSum_8 rfl ?_
  refine am_iadd cx dX12_groupSum_9 ?_
  obtain ⟨q2, hres⟩ := am_ck_some hres
  obtain ⟨q3, hres⟩ := am_ck_some hres
  refine am_iald cx dX12_groupSum_10 (am_ke q2) q3 ?_
  refine am_ineg cx dX12_groupSum_11 ?_
  refine am_istore_n cx (lv' := [(0, .inr (.inr (.inl r0))), (1, .inl x1), (2, .inl x2), (3, .inl (-(am_I M (am_R M r0 16) (((29 : Int32) * x1) + x2).toNatClampNeg)))]) dX12_groupSum_12 (Nat.le_of_ble_eq_true rfl) rfl ?_
  exact sn12_groupSum_b13 cx  hres
set_option maxRecDepth 20000 in
theorem mt12_groupSum {l : Launch} {v : Int32} {M M' : am_Mem} {N : Nat} {r0 : Nat} {x1 : Int32} {x2 : Int32} (h : fn12_groupSum N M r0 x1 x2 = some (v, M')) : am_Met l yX12_groupSum cX12_groupSum 5 (some .int) rm12_groupSum 0 0 [.inr (.inr (.inl r0)), .inl x1, .inl x2] M (some (.inl v)) M' := am_mk (by decide) (Nat.le_of_ble_eq_true rfl) (fun G cx => (sn12_groupSum_b0 cx h))
-- SquareCutsModel.draws
def fn12_draws_b79 (N : Nat) (k19 : Nat → Int32 → Int32 → Int32 → am_Mem → Option (Unit × am_Mem)) (r0 : Nat) (x1 : Int32) (x2 : Int32) (x3 : Int32) (x4 : Int32) (M : am_Mem) : Option (Unit × am_Mem) :=
  am_ck (am_k M r0 12) (am_bd (fn12_squares N M r0 x1 x3 x3 x4) (fun v2 M3 => am_ck (am_k M3 r0 12) (am_bd (fn12_laysOn N M3 r0 x3 x4) (fun v6 M7 => k19 r0 x1 x2 (x3 + (1 : Int32)) M7))))
def fn12_draws_b37 (N : Nat) (k19 : Nat → Int32 → Int32 → Int32 → am_Mem → Option (Unit × am_Mem)) (r0 : Nat) (x1 : Int32) (x2 : Int32) (x3 : Int32) (x4 : Int32) (M : am_Mem) : Option (Unit × am_Mem) :=
  if 0 ≤ x4 then fn12_draws_b79 N k19 r0 x1 x2 x3 x4 M else am_ck (am_k M r0 12) (am_ck (am_k M (am_R M r0 27) 14) (am_ck (am_in x1 (am_L M (am_R M r0 27))) (am_bd (fn12_groupSum N (am_wI M (am_R M r0 27) x1.toNatClampNeg x3) r0 x1 x3) (fun v4 M5 => am_ck (am_k M5 r0 12) (am_bd (fn12_notchAt N M5 r0 x3) (fun v8 M9 => am_ck (am_k M9 r0 12) (am_bd (fn12_widthOf M9 r0 x3 v8) (fun v12 M13 => if v4 = v12 then fn12_draws_b79 N k19 r0 x1 x2 x3 (-x4) M13 else am_ck (am_k M13 r0 12) (am_bd (fn12_fails N M13 r0 x1) (fun v16 M17 => some ((), M17)))))))))))
def fn12_draws_b19B (N : Nat) (k19 : Nat → Int32 → Int32 → Int32 → am_Mem → Option (Unit × am_Mem)) (r0 : Nat) (x1 : Int32) (x2 : Int32) (x3 : Int32) (M : am_Mem) : Option (Unit × am_Mem) :=
  if x2 ≤ x3 then am_ck (am_k M r0 12) (am_ck (am_k M (am_R M r0 27) 14) (am_ck (am_in x1 (am_L M (am_R M r0 27))) (am_ck (am_k M (am_R M r0 32) 14) (am_ck (am_in x2 (am_L M (am_R M r0 32))) (if (am_I (am_wI M (am_R M r0 27) x1.toNatClampNeg x2) (am_R M r0 32) x2.toNatClampNeg) ≤ (1 : Int32) then am_bd (fn12_put (am_wI M (am_R M r0 27) x1.toNatClampNeg x2) r0 x1 (0 : Int32) x2) (fun v6 M7 => am_ck (am_k M7 r0 12) (am_bd (fn12_put M7 r0 x1 (1 : Int32) (am_I M7 r0 35)) (fun v10 M11 => am_ck (am_k M11 r0 12) (am_ck (am_k M11 (am_R M11 r0 34) 14) (am_ck (am_in ((42 : Int32) * x2) (am_L M11 (am_R M11 r0 34))) (am_bd (fn12_put M11 r0 x1 (2 : Int32) (am_I M11 (am_R M11 r0 34) ((42 : Int32) * x2).toNatClampNeg)) (fun v16 M17 => some ((), M17)))))))) else am_bd (fn12_fails N (am_wI M (am_R M r0 27) x1.toNatClampNeg x2) r0 x1) (fun v19 M20 => some ((), M20))))))) else am_ck (am_k M r0 12) (am_ck (am_k M (am_R M r0 16) 14) (am_ck (am_in (((29 : Int32) * x1) + x3) (am_L M (am_R M r0 16))) (fn12_draws_b37 N k19 r0 x1 x2 x3 (am_I M (am_R M r0 16) (((29 : Int32) * x1) + x3).toNatClampNeg) M)))
def fn12_draws_b19 (N : Nat)  : Nat → Nat → Int32 → Int32 → Int32 → am_Mem → Option (Unit × am_Mem)
  | 0 => fun _ _ _ _ _ => none
  | i + 1 => fn12_draws_b19B N (fn12_draws_b19 N  i)
def fn12_draws_b7 (N : Nat)  (r0 : Nat) (x1 : Int32) (x2 : Int32) (M : am_Mem) : Option (Unit × am_Mem) :=
  am_ck (am_k M r0 12) (am_bd (fn12_groupSum N M r0 x1 (0 : Int32)) (fun v2 M3 => am_ck (am_k M3 r0 12) (am_bd (fn12_laysOutline M3 r0 v2) (fun v6 M7 => fn12_draws_b19 N  N r0 x1 x2 (0 : Int32) M7))))
def fn12_draws_b0 (N : Nat)  (r0 : Nat) (x1 : Int32) (M : am_Mem) : Option (Unit × am_Mem) :=
  am_ck (am_k M r0 12) (am_ck (am_k M (am_R M r0 14) 14) (am_ck (am_in x1 (am_L M (am_R M r0 14))) (fn12_draws_b7 N  r0 x1 (am_I M (am_R M r0 14) x1.toNatClampNeg) M)))
def fn12_draws (N : Nat) (M : am_Mem) (r0 : Nat) (x1 : Int32) : Option (Unit × am_Mem) := fn12_draws_b0 N r0 x1 M
def rm12_draws : Room := { frames := 3, cells := 0, slots := 0, locals := 69 }
set_option maxRecDepth 20000 in
theorem sn12_draws_b79 {l : Launch} {G : am_G} {M' : am_Mem} {N : Nat} {k19 : Nat → Int32 → Int32 → Int32 → am_Mem → Option (Unit × am_Mem)} (cx : am_Ctx l rm12_draws yX12_draws cX12_draws 5 none none M' 0 0 G) (hk19 : ∀ (r0 : Nat) (x1 : Int32) (x2 : Int32) (x3 : Int32) (M : am_Mem), k19 r0 x1 x2 x3 M = some ((), M') → G 19 [(0, .inr (.inr (.inl r0))), (1, .inl x1), (2, .inl x2), (3, .inl x3)] [] M 0 0) {r0 : Nat} {x1 : Int32} {x2 : Int32} {x3 : Int32} {x4 : Int32} {M : am_Mem} (hres : fn12_draws_b79 N k19 r0 x1 x2 x3 x4 M = some ((), M')) : G 79 [(0, .inr (.inr (.inl r0))), (1, .inl x1), (2, .inl x2), (3, .inl x3), (4, .inl x4)] [] M 0 0 := by
  unfold fn12_draws_b79 at hres
  refine am_aload_n cx 0 dX12_draws_79 rfl ?_
  refine am_iload_n cx 1 dX12_draws_80 rfl ?_
  refine am_iload_n cx 3 dX12_draws_81 rfl ?_
  refine am_iload_n cx 3 dX12_draws_82 rfl ?_
  refine am_iload cx 4 dX12_draws_83 rfl ?_
  obtain ⟨q1, hres⟩ := am_ck_some hres
  obtain ⟨v2, M3, q4, hres⟩ := am_bd_some hres
  refine am_callV0 cx [.inl x1, .inl x3, .inl x3, .inl x4] dX12_draws_85 cvX12_238 (mt12_squares q4) (am_ke q1) ⟨rfl, rfl, Nat.le_of_ble_eq_true rfl, Nat.le_of_ble_eq_true rfl⟩ rfl (Nat.le_of_ble_eq_true rfl) ⟨Nat.le_of_ble_eq_true rfl, Nat.le_of_ble_eq_true rfl⟩ ?_
  refine am_aload_n cx 0 dX12_draws_88 rfl ?_
  refine am_iload_n cx 3 dX12_draws_89 rfl ?_
  refine am_iload cx 4 dX12_draws_90 rfl ?_
  obtain ⟨q5, hres⟩ := am_ck_some hres
  obtain ⟨v6, M7, q8, hres⟩ := am_bd_some hres
  refine am_callV0 cx [.inl x3, .inl x4] dX12_draws_92 cvX12_242 (mt12_laysOn q8) (am_ke q5) ⟨rfl, rfl, Nat.le_of_ble_eq_true rfl, Nat.le_of_ble_eq_true rfl⟩ rfl (Nat.le_of_ble_eq_true rfl) ⟨Nat.le_of_ble_eq_true rfl, Nat.le_of_ble_eq_true rfl⟩ ?_
  refine am_iincw cx (lv' := [(0, .inr (.inr (.inl r0))), (1, .inl x1), (2, .inl x2), (3, .inl (x3 + (1 : Int32))), (4, .inl x4)]) (w := (1 : Int32)) 3 dX12_draws_95 (by decide) rfl (Nat.le_of_ble_eq_true rfl) rfl ?_
  refine am_goto cx (tgt := 19) dX12_draws_98 (by decide) ?_
  refine am_sub cx [0, 1, 2, 3] rfl ?_
  exact hk19 _ _ _ _ _ hres
set_option maxRecDepth 20000 in
theorem sn12_draws_b37 {l : Launch} {G : am_G} {M' : am_Mem} {N : Nat} {k19 : Nat → Int32 → Int32 → Int32 → am_Mem → Option (Unit × am_Mem)} (cx : am_Ctx l rm12_draws yX12_draws cX12_draws 5 none none M' 0 0 G) (hk19 : ∀ (r0 : Nat) (x1 : Int32) (x2 : Int32) (x3 : Int32) (M : am_Mem), k19 r0 x1 x2 x3 M = some ((), M') → G 19 [(0, .inr (.inr (.inl r0))), (1, .inl x1), (2, .inl x2), (3, .inl x3)] [] M 0 0) {r0 : Nat} {x1 : Int32} {x2 : Int32} {x3 : Int32} {x4 : Int32} {M : am_Mem} (hres : fn12_draws_b37 N k19 r0 x1 x2 x3 x4 M = some ((), M')) : G 37 [(0, .inr (.inr (.inl r0))), (1, .inl x1), (2, .inl x2), (3, .inl x3), (4, .inl x4)] [] M 0 0 := by
  unfold fn12_draws_b37 at hres
  refine am_iload cx 4 dX12_draws_37 rfl ?_
  refine am_if_ge cx (tgt := 79) dX12_draws_39 (by decide) (fun h => ?_) (fun h => ?_)
  · have hres := am_ifp h hres
    exact sn12_draws_b79 cx hk19 hres
  · have hres := am_ifn h hres
    refine am_aload_n cx 0 dX12_draws_42 rfl ?_
    obtain ⟨q1, hres⟩ := am_ck_some hres
    refine am_getR cx dX12_draws_43 flX12_55 (am_ke q1) ?_
    refine am_iload_n cx 1 dX12_draws_46 rfl ?_
    refine am_iload_n cx 3 dX12_draws_47 rfl ?_
    obtain ⟨q2, hres⟩ := am_ck_some hres
    obtain ⟨q3, hres⟩ := am_ck_some hres
    refine am_iast cx dX12_draws_48 (am_ke q2) q3  ?_
    refine am_aload_n cx 0 dX12_draws_49 rfl ?_
    refine am_iload_n cx 1 dX12_draws_50 rfl ?_
    refine am_iload_n cx 3 dX12_draws_51 rfl ?_
    obtain ⟨v4, M5, q6, hres⟩ := am_bd_some hres
    refine am_callV1 cx [.inl x1, .inl x3] dX12_draws_52 cvX12_229 (mt12_groupSum q6) (am_ke q1) ⟨rfl, rfl, Nat.le_of_ble_eq_true rfl, Nat.le_of_ble_eq_true rfl⟩ rfl (Nat.le_of_ble_eq_true rfl) ⟨Nat.le_of_ble_eq_true rfl, Nat.le_of_ble_eq_true rfl⟩ ?_
    refine am_aload_n cx 0 dX12_draws_55 rfl ?_
    refine am_iload_n cx 3 dX12_draws_56 rfl ?_
    refine am_aload_n cx 0 dX12_draws_57 rfl ?_
    refine am_iload_n cx 3 dX12_draws_58 rfl ?_
    obtain ⟨q7, hres⟩ := am_ck_some hres
    obtain ⟨v8, M9, q10, hres⟩ := am_bd_some hres
    refine am_callV1 cx [.inl x3] dX12_draws_59 cvX12_216 (mt12_notchAt q10) (am_ke q7) ⟨rfl, rfl, Nat.le_of_ble_eq_true rfl, Nat.le_of_ble_eq_true rfl⟩ rfl (Nat.le_of_ble_eq_true rfl) ⟨Nat.le_of_ble_eq_true rfl, Nat.le_of_ble_eq_true rfl⟩ ?_
    obtain ⟨q11, hres⟩ := am_ck_some hres
    obtain ⟨v12, M13, q14, hres⟩ := am_bd_some hres
    refine am_callV1 cx [.inl x3, .inl v8] dX12_draws_62 cvX12_223 (mt12_widthOf q14) (am_ke q11) ⟨rfl, rfl, Nat.le_of_ble_eq_true rfl, Nat.le_of_ble_eq_true rfl⟩ rfl (Nat.le_of_ble_eq_true rfl) ⟨Nat.le_of_ble_eq_true rfl, Nat.le_of_ble_eq_true rfl⟩ ?_
    refine am_icmp_eq cx (tgt := 74) dX12_draws_65 (by decide) (fun h => ?_) (fun h => ?_)
    · have hres := am_ifp h hres
      refine am_iload cx 4 dX12_draws_74 rfl ?_
      refine am_ineg cx dX12_draws_76 ?_
      refine am_istore cx (lv' := [(0, .inr (.inr (.inl r0))), (1, .inl x1), (2, .inl x2), (3, .inl x3), (4, .inl (-x4))]) dX12_draws_77 (Nat.le_of_ble_eq_true rfl) rfl ?_
      exact sn12_draws_b79 cx hk19 hres
    · have hres := am_ifn h hres
      refine am_aload_n cx 0 dX12_draws_68 rfl ?_
      refine am_iload_n cx 1 dX12_draws_69 rfl ?_
      obtain ⟨q15, hres⟩ := am_ck_some hres
      obtain ⟨v16, M17, q18, hres⟩ := am_bd_some hres
      refine am_callV0 cx [.inl x1] dX12_draws_70 cvX12_235 (mt12_fails q18) (am_ke q15) ⟨rfl, rfl, Nat.le_of_ble_eq_true rfl, Nat.le_of_ble_eq_true rfl⟩ rfl (Nat.le_of_ble_eq_true rfl) ⟨Nat.le_of_ble_eq_true rfl, Nat.le_of_ble_eq_true rfl⟩ ?_
      obtain ⟨-, rfl⟩ := am_fin hres
      exact am_vret cx dX12_draws_73
set_option maxRecDepth 20000 in
theorem sn12_draws_b19B {l : Launch} {G : am_G} {M' : am_Mem} {N : Nat} {k19 : Nat → Int32 → Int32 → Int32 → am_Mem → Option (Unit × am_Mem)} (cx : am_Ctx l rm12_draws yX12_draws cX12_draws 5 none none M' 0 0 G) (hk19 : ∀ (r0 : Nat) (x1 : Int32) (x2 : Int32) (x3 : Int32) (M : am_Mem), k19 r0 x1 x2 x3 M = some ((), M') → G 19 [(0, .inr (.inr (.inl r0))), (1, .inl x1), (2, .inl x2), (3, .inl x3)] [] M 0 0) {r0 : Nat} {x1 : Int32} {x2 : Int32} {x3 : Int32} {M : am_Mem} (hres : fn12_draws_b19B N k19 r0 x1 x2 x3 M = some ((), M')) : G 19 [(0, .inr (.inr (.inl r0))), (1, .inl x1), (2, .inl x2), (3, .inl x3)] [] M 0 0 := by
  unfold fn12_draws_b19B at hres
  refine am_iload_n cx 3 dX12_draws_19 rfl ?_
  refine am_iload_n cx 2 dX12_draws_20 rfl ?_
  refine am_icmp_ge cx (tgt := 101) dX12_draws_21 (by decide) (fun h => ?_) (fun h => ?_)
  · have hres := am_ifp h hres
    refine am_aload_n cx 0 dX12_draws_101 rfl ?_
    obtain ⟨q1, hres⟩ := am_ck_some hres
    refine am_getR cx dX12_draws_102 flX12_55 (am_ke q1) ?_
    refine am_iload_n cx 1 dX12_draws_105 rfl ?_
    refine am_iload_n cx 2 dX12_draws_106 rfl ?_
    obtain ⟨q2, hres⟩ := am_ck_some hres
    obtain ⟨q3, hres⟩ := am_ck_some hres
    refine am_iast cx dX12_draws_107 (am_ke q2) q3  ?_
    refine am_aload_n cx 0 dX12_draws_108 rfl ?_
    refine am_getR cx dX12_draws_109 flX12_70 (am_ke q1) ?_
    refine am_iload_n cx 2 dX12_draws_112 rfl ?_
    obtain ⟨q4, hres⟩ := am_ck_some hres
    obtain ⟨q5, hres⟩ := am_ck_some hres
    refine am_iald cx dX12_draws_113 (am_ke q4) q5 ?_
    refine am_iconst cx (v := (1 : Int32)) dX12_draws_114 (by decide) ?_
    refine am_icmp_le cx (tgt := 124) dX12_draws_115 (by decide) (fun h => ?_) (fun h => ?_)
    · have hres := am_ifp h hres
      refine am_aload_n cx 0 dX12_draws_124 rfl ?_
      refine am_iload_n cx 1 dX12_draws_125 rfl ?_
      refine am_iconst cx (v := (0 : Int32)) dX12_draws_126 (by decide) ?_
      refine am_iload_n cx 2 dX12_draws_127 rfl ?_
      obtain ⟨v6, M7, q8, hres⟩ := am_bd_some hres
      refine am_callV0 cx [.inl x1, .inl (0 : Int32), .inl x2] dX12_draws_128 cvX12_226 (mt12_put q8) (am_ke q1) ⟨rfl, rfl, Nat.le_of_ble_eq_true rfl, Nat.le_of_ble_eq_true rfl⟩ rfl (Nat.le_of_ble_eq_true rfl) ⟨Nat.le_of_ble_eq_true rfl, Nat.le_of_ble_eq_true rfl⟩ ?_
      refine am_aload_n cx 0 dX12_draws_131 rfl ?_
      refine am_iload_n cx 1 dX12_draws_132 rfl ?_
      refine am_iconst cx (v := (1 : Int32)) dX12_draws_133 (by decide) ?_
      refine am_aload_n cx 0 dX12_draws_134 rfl ?_
      obtain ⟨q9, hres⟩ := am_ck_some hres
      refine am_getI cx dX12_draws_135 flX12_209 (am_ke q9) ?_
      obtain ⟨v10, M11, q12, hres⟩ := am_bd_some hres
      refine am_callV0 cx [.inl x1, .inl (1 : Int32), .inl (am_I M7 r0 35)] dX12_draws_138 cvX12_226 (mt12_put q12) (am_ke q9) ⟨rfl, rfl, Nat.le_of_ble_eq_true rfl, Nat.le_of_ble_eq_true rfl⟩ rfl (Nat.le_of_ble_eq_true rfl) ⟨Nat.le_of_ble_eq_true rfl, Nat.le_of_ble_eq_true rfl⟩ ?_
      refine am_aload_n cx 0 dX12_draws_141 rfl ?_
      refine am_iload_n cx 1 dX12_draws_142 rfl ?_
      refine am_iconst cx (v := (2 : Int32)) dX12_draws_143 (by decide) ?_
      refine am_aload_n cx 0 dX12_draws_144 rfl ?_
      obtain ⟨q13, hres⟩ := am_ck_some hres
      refine am_getR cx dX12_draws_145 flX12_76 (am_ke q13) ?_
      refine am_bipush cx (v := (42 : Int32)) dX12_draws_148 (by decide) ?_
      refine am_iload_n cx 2 dX12_draws_150 rfl ?_
      refine am_imul cx dX12_draws_151 ?_
      obtain ⟨q14, hres⟩ := am_ck_some hres
      obtain ⟨q15, hres⟩ := am_ck_some hres
      refine am_iald cx dX12_draws_152 (am_ke q14) q15 ?_
      obtain ⟨v16, M17, q18, hres⟩ := am_bd_some hres
      refine am_callV0 cx [.inl x1, .inl (2 : Int32), .inl (am_I M11 (am_R M11 r0 34) ((42 : Int32) * x2).toNatClampNeg)] dX12_draws_153 cvX12_226 (mt12_put q18) (am_ke q13) ⟨rfl, rfl, Nat.le_of_ble_eq_true rfl, Nat.le_of_ble_eq_true rfl⟩ rfl (Nat.le_of_ble_eq_true rfl) ⟨Nat.le_of_ble_eq_true rfl, Nat.le_of_ble_eq_true rfl⟩ ?_
      obtain ⟨-, rfl⟩ := am_fin hres
      exact am_vret cx dX12_draws_156
    · have hres := am_ifn h hres
      refine am_aload_n cx 0 dX12_draws_118 rfl ?_
      refine am_iload_n cx 1 dX12_draws_119 rfl ?_
      obtain ⟨v19, M20, q21, hres⟩ := am_bd_some hres
      refine am_callV0 cx [.inl x1] dX12_draws_120 cvX12_235 (mt12_fails q21) (am_ke q1) ⟨rfl, rfl, Nat.le_of_ble_eq_true rfl, Nat.le_of_ble_eq_true rfl⟩ rfl (Nat.le_of_ble_eq_true rfl) ⟨Nat.le_of_ble_eq_true rfl, Nat.le_of_ble_eq_true rfl⟩ ?_
      obtain ⟨-, rfl⟩ := am_fin hres
      exact am_vret cx dX12_draws_123
  · have hres := am_ifn h hres
    refine am_aload_n cx 0 dX12_draws_24 rfl ?_
    obtain ⟨q22, hres⟩ := am_ck_some hres
    refine am_getR cx dX12_draws_25 flX12_27 (am_ke q22) ?_
    refine am_bipush cx (v := (29 : Int32)) dX12_draws_28 (by decide) ?_
    refine am_iload_n cx 1 dX12_draws_30 rfl ?_
    refine am_imul cx dX12_draws_31 ?_
    refine am_iload_n cx 3 dX12_draws_32 rfl ?_
    refine am_iadd cx dX12_draws_33 ?_
    obtain ⟨q23, hres⟩ := am_ck_some hres
    obtain ⟨q24, hres⟩ := am_ck_some hres
    refine am_iald cx dX12_draws_34 (am_ke q23) q24 ?_
    refine am_istore cx (lv' := [(0, .inr (.inr (.inl r0))), (1, .inl x1), (2, .inl x2), (3, .inl x3), (4, .inl (am_I M (am_R M r0 16) (((29 : Int32) * x1) + x3).toNatClampNeg))]) dX12_draws_35 (Nat.le_of_ble_eq_true rfl) rfl ?_
    exact sn12_draws_b37 cx hk19 hres
set_option maxRecDepth 20000 in
theorem sn12_draws_b19 {l : Launch} {G : am_G} {M' : am_Mem} {N : Nat}  (cx : am_Ctx l rm12_draws yX12_draws cX12_draws 5 none none M' 0 0 G)  (i : Nat) : ∀ (r0 : Nat) (x1 : Int32) (x2 : Int32) (x3 : Int32) (M : am_Mem), fn12_draws_b19 N  i r0 x1 x2 x3 M = some ((), M') → G 19 [(0, .inr (.inr (.inl r0))), (1, .inl x1), (2, .inl x2), (3, .inl x3)] [] M 0 0 := by
  induction i with
  | zero => intro r0 x1 x2 x3 M hres; exact am_no hres
  | succ i ih => intro r0 x1 x2 x3 M hres; exact sn12_draws_b19B cx ih hres
set_option maxRecDepth 20000 in
theorem sn12_draws_b7 {l : Launch} {G : am_G} {M' : am_Mem} {N : Nat}  (cx : am_Ctx l rm12_draws yX12_draws cX12_draws 5 none none M' 0 0 G)  {r0 : Nat} {x1 : Int32} {x2 : Int32} {M : am_Mem} (hres : fn12_draws_b7 N  r0 x1 x2 M = some ((), M')) : G 7 [(0, .inr (.inr (.inl r0))), (1, .inl x1), (2, .inl x2)] [] M 0 0 := by
  unfold fn12_draws_b7 at hres
  refine am_aload_n cx 0 dX12_draws_7 rfl ?_
  refine am_aload_n cx 0 dX12_draws_8 rfl ?_
  refine am_iload_n cx 1 dX12_draws_9 rfl ?_
  refine am_iconst cx (v := (0 : Int32)) dX12_draws_10 (by decide) ?_
  obtain ⟨q1, hres⟩ := am_ck_some hres
  obtain ⟨v2, M3, q4, hres⟩ := am_bd_some hres
  refine am_callV1 cx [.inl x1, .inl (0 : Int32)] dX12_draws_11 cvX12_229 (mt12_groupSum q4) (am_ke q1) ⟨rfl, rfl, Nat.le_of_ble_eq_true rfl, Nat.le_of_ble_eq_true rfl⟩ rfl (Nat.le_of_ble_eq_true rfl) ⟨Nat.le_of_ble_eq_true rfl, Nat.le_of_ble_eq_true rfl⟩ ?_
  obtain ⟨q5, hres⟩ := am_ck_some hres
  obtain ⟨v6, M7, q8, hres⟩ := am_bd_some hres
  refine am_callV0 cx [.inl v2] dX12_draws_14 cvX12_232 (mt12_laysOutline q8) (am_ke q5) ⟨rfl, rfl, Nat.le_of_ble_eq_true rfl, Nat.le_of_ble_eq_true rfl⟩ rfl (Nat.le_of_ble_eq_true rfl) ⟨Nat.le_of_ble_eq_true rfl, Nat.le_of_ble_eq_true rfl⟩ ?_
  refine am_iconst cx (v := (0 : Int32)) dX12_draws_17 (by decide) ?_
  refine am_istore_n cx (lv' := [(0, .inr (.inr (.inl r0))), (1, .inl x1), (2, .inl x2), (3, .inl (0 : Int32))]) dX12_draws_18 (Nat.le_of_ble_eq_true rfl) rfl ?_
  exact sn12_draws_b19 cx  N _ _ _ _ _ hres
set_option maxRecDepth 20000 in
theorem sn12_draws_b0 {l : Launch} {G : am_G} {M' : am_Mem} {N : Nat}  (cx : am_Ctx l rm12_draws yX12_draws cX12_draws 5 none none M' 0 0 G)  {r0 : Nat} {x1 : Int32} {M : am_Mem} (hres : fn12_draws_b0 N  r0 x1 M = some ((), M')) : G 0 [(0, .inr (.inr (.inl r0))), (1, .inl x1)] [] M 0 0 := by
  unfold fn12_draws_b0 at hres
  refine am_aload_n cx 0 dX12_draws_0 rfl ?_
  obtain ⟨q1, hres⟩ := am_ck_some hres
  refine am_getR cx dX12_draws_1 flX12_21 (am_ke q1) ?_
  refine am_iload_n cx 1 dX12_draws_4 rfl ?_
  obtain ⟨q2, hres⟩ := am_ck_some hres
  obtain ⟨q3, hres⟩ := am_ck_some hres
  refine am_iald cx dX12_draws_5 (am_ke q2) q3 ?_
  refine am_istore_n cx (lv' := [(0, .inr (.inr (.inl r0))), (1, .inl x1), (2, .inl (am_I M (am_R M r0 14) x1.toNatClampNeg))]) dX12_draws_6 (Nat.le_of_ble_eq_true rfl) rfl ?_
  exact sn12_draws_b7 cx  hres
set_option maxRecDepth 20000 in
theorem mt12_draws {l : Launch} {M M' : am_Mem} {N : Nat} {r0 : Nat} {x1 : Int32} (h : fn12_draws N M r0 x1 = some ((), M')) : am_Met l yX12_draws cX12_draws 5 none rm12_draws 0 0 [.inr (.inr (.inl r0)), .inl x1] M none M' := am_mk (by decide) (Nat.le_of_ble_eq_true rfl) (fun G cx => (sn12_draws_b0 cx h))
-- SquareCutsModel.adds
def fn12_adds_b22   (M : am_Mem) : Option (Unit × am_Mem) :=
  some ((), M)
def fn12_adds_b63  (a0 : Int32) (r0 : Nat) (j6 : Int64) (x8 : Int32) (M : am_Mem) : Option (Unit × am_Mem) :=
  am_ck (am_k M r0 12) (am_ck (am_k M (am_R M r0 36) 15) (am_ck (am_in (((8 : Int32) * x8) + a0) (am_L M (am_R M r0 36))) (am_ck (am_in (((8 : Int32) * x8) + a0) (am_L M (am_R M r0 36))) (some ((), (am_wJ M (am_R M r0 36) (((8 : Int32) * x8) + a0).toNatClampNeg ((am_J M (am_R M r0 36) (((8 : Int32) * x8) + a0).toNatClampNeg) + j6)))))))
def fn12_adds_b62  (r0 : Nat) (x3 : Int32) (j6 : Int64) (x8 : Int32) (M : am_Mem) : Option (Unit × am_Mem) :=
  fn12_adds_b63  x3 r0 j6 x8 M
def fn12_adds_b42  (a0 : Int32) (r0 : Nat) (x3 : Int32) (x5 : Int32) (j6 : Int64) (M : am_Mem) : Option (Unit × am_Mem) :=
  if x5 = (-1 : Int32) then fn12_adds_b62  r0 x3 j6 a0 M else if x3 ≤ x5 then fn12_adds_b62  r0 x3 j6 a0 M else fn12_adds_b63  (x3 - (1 : Int32)) r0 j6 a0 M
def fn12_adds_b41  (r0 : Nat) (x2 : Int32) (x3 : Int32) (x5 : Int32) (j6 : Int64) (M : am_Mem) : Option (Unit × am_Mem) :=
  fn12_adds_b42  x2 r0 x3 x5 j6 M
def fn12_adds_b0  (r0 : Nat) (x1 : Int32) (x2 : Int32) (x3 : Int32) (x4 : Int32) (x5 : Int32) (j6 : Int64) (M : am_Mem) : Option (Unit × am_Mem) :=
  if x1 ≤ x2 then fn12_adds_b22   M else if x1 ≤ x3 then fn12_adds_b22   M else if x2 = x4 then fn12_adds_b22   M else if x3 = x5 then fn12_adds_b22   M else if x4 = (-1 : Int32) then fn12_adds_b41  r0 x2 x3 x5 j6 M else if x2 ≤ x4 then fn12_adds_b41  r0 x2 x3 x5 j6 M else fn12_adds_b42  (x2 - (1 : Int32)) r0 x3 x5 j6 M
def fn12_adds (M : am_Mem) (r0 : Nat) (x1 : Int32) (x2 : Int32) (x3 : Int32) (x4 : Int32) (x5 : Int32) (j6 : Int64) : Option (Unit × am_Mem) := fn12_adds_b0  r0 x1 x2 x3 x4 x5 j6 M
def rm12_adds : Room := { frames := 0, cells := 0, slots := 0, locals := 0 }
set_option maxRecDepth 20000 in
theorem sn12_adds_b22 {l : Launch} {G : am_G} {M' : am_Mem}  (cx : am_Ctx l rm12_adds yX12_adds cX12_adds 10 none none M' 0 0 G)   {M : am_Mem} (hres : fn12_adds_b22   M = some ((), M')) : G 22 [] [] M 0 0 := by
  unfold fn12_adds_b22 at hres
  obtain ⟨-, rfl⟩ := am_fin hres
  exact am_vret cx dX12_adds_22
set_option maxRecDepth 20000 in
theorem sn12_adds_b63 {l : Launch} {G : am_G} {M' : am_Mem}  (cx : am_Ctx l rm12_adds yX12_adds cX12_adds 10 none none M' 0 0 G)  {a0 : Int32} {r0 : Nat} {j6 : Int64} {x8 : Int32} {M : am_Mem} (hres : fn12_adds_b63  a0 r0 j6 x8 M = some ((), M')) : G 63 [(0, .inr (.inr (.inl r0))), (6, .inr (.inl j6)), (8, .inl x8)] [.inl a0] M 0 0 := by
  unfold fn12_adds_b63 at hres
  refine am_istore cx (lv' := [(0, .inr (.inr (.inl r0))), (6, .inr (.inl j6)), (8, .inl x8), (9, .inl a0)]) dX12_adds_63 (Nat.le_of_ble_eq_true rfl) rfl ?_
  refine am_aload_n cx 0 dX12_adds_65 rfl ?_
  obtain ⟨q1, hres⟩ := am_ck_some hres
  refine am_getR cx dX12_adds_66 flX12_79 (am_ke q1) ?_
  refine am_bipush cx (v := (8 : Int32)) dX12_adds_69 (by decide) ?_
  refine am_iload cx 2 dX12_adds_71 rfl ?_
  refine am_imul cx dX12_adds_73 ?_
  refine am_iload cx 3 dX12_adds_74 rfl ?_
  refine am_iadd cx dX12_adds_76 ?_
  refine am_dup2 cx dX12_adds_77 rfl rfl ?_
  obtain ⟨q2, hres⟩ := am_ck_some hres
  obtain ⟨q3, hres⟩ := am_ck_some hres
  refine am_lald cx dX12_adds_78 (am_ke q2) q3 ?_
  refine am_lload cx 1 dX12_adds_79 rfl ?_
  refine am_ladd cx dX12_adds_81 ?_
  obtain ⟨q4, hres⟩ := am_ck_some hres
  refine am_last cx dX12_adds_82 (am_ke q2) q4  ?_
  obtain ⟨-, rfl⟩ := am_fin hres
  exact am_vret cx dX12_adds_83
set_option maxRecDepth 20000 in
theorem sn12_adds_b62 {l : Launch} {G : am_G} {M' : am_Mem}  (cx : am_Ctx l rm12_adds yX12_adds cX12_adds 10 none none M' 0 0 G)  {r0 : Nat} {x3 : Int32} {j6 : Int64} {x8 : Int32} {M : am_Mem} (hres : fn12_adds_b62  r0 x3 j6 x8 M = some ((), M')) : G 62 [(0, .inr (.inr (.inl r0))), (3, .inl x3), (6, .inr (.inl j6)), (8, .inl x8)] [] M 0 0 := by
  unfold fn12_adds_b62 at hres
  refine am_iload_n cx 1 dX12_adds_62 rfl ?_
  refine am_sub cx [0, 2, 3] rfl ?_
  exact sn12_adds_b63 cx  hres
set_option maxRecDepth 20000 in
theorem sn12_adds_b42 {l : Launch} {G : am_G} {M' : am_Mem}  (cx : am_Ctx l rm12_adds yX12_adds cX12_adds 10 none none M' 0 0 G)  {a0 : Int32} {r0 : Nat} {x3 : Int32} {x5 : Int32} {j6 : Int64} {M : am_Mem} (hres : fn12_adds_b42  a0 r0 x3 x5 j6 M = some ((), M')) : G 42 [(0, .inr (.inr (.inl r0))), (3, .inl x3), (5, .inl x5), (6, .inr (.inl j6))] [.inl a0] M 0 0 := by
  unfold fn12_adds_b42 at hres
  refine am_istore cx (lv' := [(0, .inr (.inr (.inl r0))), (3, .inl x3), (5, .inl x5), (6, .inr (.inl j6)), (8, .inl a0)]) dX12_adds_42 (Nat.le_of_ble_eq_true rfl) rfl ?_
  refine am_iload cx 2 dX12_adds_44 rfl ?_
  refine am_iconst cx (v := (-1 : Int32)) dX12_adds_46 (by decide) ?_
  refine am_icmp_eq cx (tgt := 62) dX12_adds_47 (by decide) (fun h => ?_) (fun h => ?_)
  · have hres := am_ifp h hres
    refine am_sub cx [0, 1, 3, 4] rfl ?_
    exact sn12_adds_b62 cx  hres
  · have hres := am_ifn h hres
    refine am_iload_n cx 1 dX12_adds_50 rfl ?_
    refine am_iload cx 2 dX12_adds_51 rfl ?_
    refine am_icmp_le cx (tgt := 62) dX12_adds_53 (by decide) (fun h => ?_) (fun h => ?_)
    · have hres := am_ifp h hres
      refine am_sub cx [0, 1, 3, 4] rfl ?_
      exact sn12_adds_b62 cx  hres
    · have hres := am_ifn h hres
      refine am_iload_n cx 1 dX12_adds_56 rfl ?_
      refine am_iconst cx (v := (1 : Int32)) dX12_adds_57 (by decide) ?_
      refine am_isub cx dX12_adds_58 ?_
      refine am_goto cx (tgt := 63) dX12_adds_59 (by decide) ?_
      refine am_sub cx [0, 3, 4] rfl ?_
      exact sn12_adds_b63 cx  hres
set_option maxRecDepth 20000 in
theorem sn12_adds_b41 {l : Launch} {G : am_G} {M' : am_Mem}  (cx : am_Ctx l rm12_adds yX12_adds cX12_adds 10 none none M' 0 0 G)  {r0 : Nat} {x2 : Int32} {x3 : Int32} {x5 : Int32} {j6 : Int64} {M : am_Mem} (hres : fn12_adds_b41  r0 x2 x3 x5 j6 M = some ((), M')) : G 41 [(0, .inr (.inr (.inl r0))), (2, .inl x2), (3, .inl x3), (5, .inl x5), (6, .inr (.inl j6))] [] M 0 0 := by
  unfold fn12_adds_b41 at hres
  refine am_iload_n cx 1 dX12_adds_41 rfl ?_
  refine am_sub cx [0, 2, 3, 4] rfl ?_
  exact sn12_adds_b42 cx  hres
set_option maxRecDepth 20000 in
theorem sn12_adds_b0 {l : Launch} {G : am_G} {M' : am_Mem}  (cx : am_Ctx l rm12_adds yX12_adds cX12_adds 10 none none M' 0 0 G)  {r0 : Nat} {x1 : Int32} {x2 : Int32} {x3 : Int32} {x4 : Int32} {x5 : Int32} {j6 : Int64} {M : am_Mem} (hres : fn12_adds_b0  r0 x1 x2 x3 x4 x5 j6 M = some ((), M')) : G 0 [(0, .inr (.inr (.inl r0))), (1, .inl x1), (2, .inl x2), (3, .inl x3), (4, .inl x4), (5, .inl x5), (6, .inr (.inl j6))] [] M 0 0 := by
  unfold fn12_adds_b0 at hres
  refine am_iload_n cx 2 dX12_adds_0 rfl ?_
  refine am_iload_n cx 1 dX12_adds_1 rfl ?_
  refine am_icmp_ge cx (tgt := 22) dX12_adds_2 (by decide) (fun h => ?_) (fun h => ?_)
  · have hres := am_ifp h hres
    refine am_sub cx [] rfl ?_
    exact sn12_adds_b22 cx  hres
  · have hres := am_ifn h hres
    refine am_iload_n cx 3 dX12_adds_5 rfl ?_
    refine am_iload_n cx 1 dX12_adds_6 rfl ?_
    refine am_icmp_ge cx (tgt := 22) dX12_adds_7 (by decide) (fun h => ?_) (fun h => ?_)
    · have hres := am_ifp h hres
      refine am_sub cx [] rfl ?_
      exact sn12_adds_b22 cx  hres
    · have hres := am_ifn h hres
      refine am_iload_n cx 2 dX12_adds_10 rfl ?_
      refine am_iload cx 4 dX12_adds_11 rfl ?_
      refine am_icmp_eq cx (tgt := 22) dX12_adds_13 (by decide) (fun h => ?_) (fun h => ?_)
      · have hres := am_ifp h hres
        refine am_sub cx [] rfl ?_
        exact sn12_adds_b22 cx  hres
      · have hres := am_ifn h hres
        refine am_iload_n cx 3 dX12_adds_16 rfl ?_
        refine am_iload cx 5 dX12_adds_17 rfl ?_
        refine am_icmp_ne cx (tgt := 23) dX12_adds_19 (by decide) (fun h => ?_) (fun h => ?_)
        · have hres := am_ifn h hres
          refine am_iload cx 4 dX12_adds_23 rfl ?_
          refine am_iconst cx (v := (-1 : Int32)) dX12_adds_25 (by decide) ?_
          refine am_icmp_eq cx (tgt := 41) dX12_adds_26 (by decide) (fun h => ?_) (fun h => ?_)
          · have hres := am_ifp h hres
            refine am_sub cx [0, 2, 3, 5, 6] rfl ?_
            exact sn12_adds_b41 cx  hres
          · have hres := am_ifn h hres
            refine am_iload_n cx 2 dX12_adds_29 rfl ?_
            refine am_iload cx 4 dX12_adds_30 rfl ?_
            refine am_icmp_le cx (tgt := 41) dX12_adds_32 (by decide) (fun h => ?_) (fun h => ?_)
            · have hres := am_ifp h hres
              refine am_sub cx [0, 2, 3, 5, 6] rfl ?_
              exact sn12_adds_b41 cx  hres
            · have hres := am_ifn h hres
              refine am_iload_n cx 2 dX12_adds_35 rfl ?_
              refine am_iconst cx (v := (1 : Int32)) dX12_adds_36 (by decide) ?_
              refine am_isub cx dX12_adds_37 ?_
              refine am_goto cx (tgt := 42) dX12_adds_38 (by decide) ?_
              refine am_sub cx [0, 3, 5, 6] rfl ?_
              exact sn12_adds_b42 cx  hres
        · have hres := am_ifp h hres
          refine am_sub cx [] rfl ?_
          exact sn12_adds_b22 cx  hres
set_option maxRecDepth 20000 in
theorem mt12_adds {l : Launch} {M M' : am_Mem} {r0 : Nat} {x1 : Int32} {x2 : Int32} {x3 : Int32} {x4 : Int32} {x5 : Int32} {j6 : Int64} (h : fn12_adds M r0 x1 x2 x3 x4 x5 j6 = some ((), M')) : am_Met l yX12_adds cX12_adds 10 none rm12_adds 0 0 [.inr (.inr (.inl r0)), .inl x1, .inl x2, .inl x3, .inl x4, .inl x5, .inr (.inl j6)] M none M' := am_mk (by decide) (Nat.le_of_ble_eq_true rfl) (fun G cx => (sn12_adds_b0 cx h))
-- SquareCutsModel.determinant
def fn12_determinant_b271 (N : Nat) (k8 : Nat → Int32 → Int64 → Int64 → Int32 → am_Mem → Option (Int64 × am_Mem)) (r0 : Nat) (x1 : Int32) (j2 : Int64) (j4 : Int64) (x6 : Int32) (M : am_Mem) : Option (Int64 × am_Mem) :=
  k8 r0 x1 j2 j4 (x6 + (1 : Int32)) M
def fn12_determinant_b169B (N : Nat) (k8 : Nat → Int32 → Int64 → Int64 → Int32 → am_Mem → Option (Int64 × am_Mem)) (k157 : Nat → Int32 → Int64 → Int64 → Int32 → Int32 → am_Mem → Option (Int64 × am_Mem)) (k169 : Nat → Int32 → Int64 → Int64 → Int32 → Int32 → Int32 → am_Mem → Option (Int64 × am_Mem)) (r0 : Nat) (x1 : Int32) (j2 : Int64) (j4 : Int64) (x6 : Int32) (x8 : Int32) (x9 : Int32) (M : am_Mem) : Option (Int64 × am_Mem) :=
  if x1 ≤ x9 then k157 r0 x1 j2 j4 x6 (x8 + (1 : Int32)) M else am_ck (am_k M r0 12) (am_ck (am_k M (am_R M r0 36) 15) (am_ck (am_in (((8 : Int32) * x8) + x9) (am_L M (am_R M r0 36))) (am_ck (am_in (((8 : Int32) * x6) + x6) (am_L M (am_R M r0 36))) (am_ck (am_in (((8 : Int32) * x8) + x6) (am_L M (am_R M r0 36))) (am_ck (am_in (((8 : Int32) * x6) + x9) (am_L M (am_R M r0 36))) (am_ck (decide (¬ j2 = 0)) (am_ck (am_in (((8 : Int32) * x8) + x9) (am_L M (am_R M r0 36))) (k169 r0 x1 j2 j4 x6 x8 (x9 + (1 : Int32)) (am_wJ M (am_R M r0 36) (((8 : Int32) * x8) + x9).toNatClampNeg ((((am_J M (am_R M r0 36) (((8 : Int32) * x8) + x9).toNatClampNeg) * (am_J M (am_R M r0 36) (((8 : Int32) * x6) + x6).toNatClampNeg)) - ((am_J M (am_R M r0 36) (((8 : Int32) * x8) + x6).toNatClampNeg) * (am_J M (am_R M r0 36) (((8 : Int32) * x6) + x9).toNatClampNeg))) / j2))))))))))
def fn12_determinant_b169 (N : Nat) (k8 : Nat → Int32 → Int64 → Int64 → Int32 → am_Mem → Option (Int64 × am_Mem)) (k157 : Nat → Int32 → Int64 → Int64 → Int32 → Int32 → am_Mem → Option (Int64 × am_Mem)) : Nat → Nat → Int32 → Int64 → Int64 → Int32 → Int32 → Int32 → am_Mem → Option (Int64 × am_Mem)
  | 0 => fun _ _ _ _ _ _ _ _ => none
  | i + 1 => fn12_determinant_b169B N k8 k157 (fn12_determinant_b169 N k8 k157 i)
def fn12_determinant_b157B (N : Nat) (k8 : Nat → Int32 → Int64 → Int64 → Int32 → am_Mem → Option (Int64 × am_Mem)) (k157 : Nat → Int32 → Int64 → Int64 → Int32 → Int32 → am_Mem → Option (Int64 × am_Mem)) (r0 : Nat) (x1 : Int32) (j2 : Int64) (j4 : Int64) (x6 : Int32) (x8 : Int32) (M : am_Mem) : Option (Int64 × am_Mem) :=
  if x1 ≤ x8 then am_ck (am_k M r0 12) (am_ck (am_k M (am_R M r0 36) 15) (am_ck (am_in (((8 : Int32) * x6) + x6) (am_L M (am_R M r0 36))) (fn12_determinant_b271 N k8 r0 x1 (am_J M (am_R M r0 36) (((8 : Int32) * x6) + x6).toNatClampNeg) j4 x6 M))) else fn12_determinant_b169 N k8 k157 N r0 x1 j2 j4 x6 x8 (x6 + (1 : Int32)) M
def fn12_determinant_b157 (N : Nat) (k8 : Nat → Int32 → Int64 → Int64 → Int32 → am_Mem → Option (Int64 × am_Mem)) : Nat → Nat → Int32 → Int64 → Int64 → Int32 → Int32 → am_Mem → Option (Int64 × am_Mem)
  | 0 => fun _ _ _ _ _ _ _ => none
  | i + 1 => fn12_determinant_b157B N k8 (fn12_determinant_b157 N k8 i)
def fn12_determinant_b151 (N : Nat) (k8 : Nat → Int32 → Int64 → Int64 → Int32 → am_Mem → Option (Int64 × am_Mem)) (r0 : Nat) (x1 : Int32) (j2 : Int64) (j4 : Int64) (x6 : Int32) (M : am_Mem) : Option (Int64 × am_Mem) :=
  fn12_determinant_b157 N k8 N r0 x1 j2 j4 x6 (x6 + (1 : Int32)) M
def fn12_determinant_b149 (N : Nat) (k8 : Nat → Int32 → Int64 → Int64 → Int32 → am_Mem → Option (Int64 × am_Mem)) (b0 : Int64) (r0 : Nat) (x1 : Int32) (j2 : Int64) (x6 : Int32) (M : am_Mem) : Option (Int64 × am_Mem) :=
  fn12_determinant_b151 N k8 r0 x1 j2 b0 x6 M
def fn12_determinant_b134 (N : Nat) (k8 : Nat → Int32 → Int64 → Int64 → Int32 → am_Mem → Option (Int64 × am_Mem)) (r0 : Nat) (x1 : Int32) (j2 : Int64) (j4 : Int64) (x6 : Int32) (x7 : Int32) (M : am_Mem) : Option (Int64 × am_Mem) :=
  if x7 = x6 then fn12_determinant_b149 N k8 j4 r0 x1 j2 x6 M else fn12_determinant_b149 N k8 (-j4) r0 x1 j2 x6 M
def fn12_determinant_b87 (N : Nat) (k8 : Nat → Int32 → Int64 → Int64 → Int32 → am_Mem → Option (Int64 × am_Mem)) (k59 : Nat → Int32 → Int64 → Int64 → Int32 → Int32 → Int32 → am_Mem → Option (Int64 × am_Mem)) (r0 : Nat) (x1 : Int32) (j2 : Int64) (j4 : Int64) (x6 : Int32) (x7 : Int32) (x8 : Int32) (j9 : Int64) (M : am_Mem) : Option (Int64 × am_Mem) :=
  am_ck (am_k M r0 12) (am_ck (am_k M (am_R M r0 36) 15) (am_ck (am_in (((8 : Int32) * x6) + x8) (am_L M (am_R M r0 36))) (am_ck (am_in (((8 : Int32) * x7) + x8) (am_L M (am_R M r0 36))) (am_ck (am_in (((8 : Int32) * x6) + x8) (am_L M (am_R M r0 36))) (k59 r0 x1 j2 j4 x6 x7 (x8 + (1 : Int32)) (am_wJ (am_wJ M (am_R M r0 36) (((8 : Int32) * x7) + x8).toNatClampNeg (am_J M (am_R M r0 36) (((8 : Int32) * x6) + x8).toNatClampNeg)) (am_R M r0 36) (((8 : Int32) * x6) + x8).toNatClampNeg j9))))))
def fn12_determinant_b59B (N : Nat) (k8 : Nat → Int32 → Int64 → Int64 → Int32 → am_Mem → Option (Int64 × am_Mem)) (k59 : Nat → Int32 → Int64 → Int64 → Int32 → Int32 → Int32 → am_Mem → Option (Int64 × am_Mem)) (r0 : Nat) (x1 : Int32) (j2 : Int64) (j4 : Int64) (x6 : Int32) (x7 : Int32) (x8 : Int32) (M : am_Mem) : Option (Int64 × am_Mem) :=
  if x1 ≤ x8 then fn12_determinant_b134 N k8 r0 x1 j2 j4 x6 x7 M else if x7 = x6 then fn12_determinant_b134 N k8 r0 x1 j2 j4 x6 x7 M else am_ck (am_k M r0 12) (am_ck (am_k M (am_R M r0 36) 15) (am_ck (am_in (((8 : Int32) * x7) + x8) (am_L M (am_R M r0 36))) (fn12_determinant_b87 N k8 k59 r0 x1 j2 j4 x6 x7 x8 (am_J M (am_R M r0 36) (((8 : Int32) * x7) + x8).toNatClampNeg) M)))
def fn12_determinant_b59 (N : Nat) (k8 : Nat → Int32 → Int64 → Int64 → Int32 → am_Mem → Option (Int64 × am_Mem)) : Nat → Nat → Int32 → Int64 → Int64 → Int32 → Int32 → Int32 → am_Mem → Option (Int64 × am_Mem)
  | 0 => fun _ _ _ _ _ _ _ _ => none
  | i + 1 => fn12_determinant_b59B N k8 (fn12_determinant_b59 N k8 i)
def fn12_determinant_b48 (N : Nat) (k8 : Nat → Int32 → Int64 → Int64 → Int32 → am_Mem → Option (Int64 × am_Mem)) (r0 : Nat) (x1 : Int32) (j2 : Int64) (j4 : Int64) (x6 : Int32) (x7 : Int32) (M : am_Mem) : Option (Int64 × am_Mem) :=
  if x7 = x1 then some ((0 : Int64), M) else fn12_determinant_b59 N k8 N r0 x1 j2 j4 x6 x7 (0 : Int32) M
def fn12_determinant_b18B (N : Nat) (k8 : Nat → Int32 → Int64 → Int64 → Int32 → am_Mem → Option (Int64 × am_Mem)) (k18 : Nat → Int32 → Int64 → Int64 → Int32 → Int32 → am_Mem → Option (Int64 × am_Mem)) (r0 : Nat) (x1 : Int32) (j2 : Int64) (j4 : Int64) (x6 : Int32) (x7 : Int32) (M : am_Mem) : Option (Int64 × am_Mem) :=
  if x1 ≤ x7 then fn12_determinant_b48 N k8 r0 x1 j2 j4 x6 x7 M else am_ck (am_k M r0 12) (am_ck (am_k M (am_R M r0 36) 15) (am_ck (am_in (((8 : Int32) * x7) + x6) (am_L M (am_R M r0 36))) (if (lg_cmp (am_J M (am_R M r0 36) (((8 : Int32) * x7) + x6).toNatClampNeg) (0 : Int64)) = 0 then k18 r0 x1 j2 j4 x6 (x7 + (1 : Int32)) M else fn12_determinant_b48 N k8 r0 x1 j2 j4 x6 x7 M)))
def fn12_determinant_b18 (N : Nat) (k8 : Nat → Int32 → Int64 → Int64 → Int32 → am_Mem → Option (Int64 × am_Mem)) : Nat → Nat → Int32 → Int64 → Int64 → Int32 → Int32 → am_Mem → Option (Int64 × am_Mem)
  | 0 => fun _ _ _ _ _ _ _ => none
  | i + 1 => fn12_determinant_b18B N k8 (fn12_determinant_b18 N k8 i)
def fn12_determinant_b8B (N : Nat) (k8 : Nat → Int32 → Int64 → Int64 → Int32 → am_Mem → Option (Int64 × am_Mem)) (r0 : Nat) (x1 : Int32) (j2 : Int64) (j4 : Int64) (x6 : Int32) (M : am_Mem) : Option (Int64 × am_Mem) :=
  if x1 ≤ x6 then some ((j4 * j2), M) else fn12_determinant_b18 N k8 N r0 x1 j2 j4 x6 x6 M
def fn12_determinant_b8 (N : Nat)  : Nat → Nat → Int32 → Int64 → Int64 → Int32 → am_Mem → Option (Int64 × am_Mem)
  | 0 => fun _ _ _ _ _ _ => none
  | i + 1 => fn12_determinant_b8B N (fn12_determinant_b8 N  i)
def fn12_determinant_b0 (N : Nat)  (r0 : Nat) (x1 : Int32) (M : am_Mem) : Option (Int64 × am_Mem) :=
  fn12_determinant_b8 N  N r0 x1 (1 : Int64) (1 : Int64) (0 : Int32) M
def fn12_determinant (N : Nat) (M : am_Mem) (r0 : Nat) (x1 : Int32) : Option (Int64 × am_Mem) := fn12_determinant_b0 N r0 x1 M
def rm12_determinant : Room := { frames := 0, cells := 0, slots := 0, locals := 0 }
set_option maxRecDepth 20000 in
theorem sn12_determinant_b271 {l : Launch} {G : am_G} {v : Int64} {M' : am_Mem} {N : Nat} {k8 : Nat → Int32 → Int64 → Int64 → Int32 → am_Mem → Option (Int64 × am_Mem)} (cx : am_Ctx l rm12_determinant yX12_determinant cX12_determinant 11 (some .long) (some (.inr (.inl v))) M' 0 0 G) (hk8 : ∀ (r0 : Nat) (x1 : Int32) (j2 : Int64) (j4 : Int64) (x6 : Int32) (M : am_Mem), k8 r0 x1 j2 j4 x6 M = some (v, M') → G 8 [(0, .inr (.inr (.inl r0))), (1, .inl x1), (2, .inr (.inl j2)), (4, .inr (.inl j4)), (6, .inl x6)] [] M 0 0) {r0 : Nat} {x1 : Int32} {j2 : Int64} {j4 : Int64} {x6 : Int32} {M : am_Mem} (hres : fn12_determinant_b271 N k8 r0 x1 j2 j4 x6 M = some (v, M')) : G 271 [(0, .inr (.inr (.inl r0))), (1, .inl x1), (2, .inr (.inl j2)), (4, .inr (.inl j4)), (6, .inl x6)] [] M 0 0 := by
  unfold fn12_determinant_b271 at hres
  refine am_iincw cx (lv' := [(0, .inr (.inr (.inl r0))), (1, .inl x1), (2, .inr (.inl j2)), (4, .inr (.inl j4)), (6, .inl (x6 + (1 : Int32)))]) (w := (1 : Int32)) 4 dX12_determinant_271 (by decide) rfl (Nat.le_of_ble_eq_true rfl) rfl ?_
  refine am_goto cx (tgt := 8) dX12_determinant_274 (by decide) ?_
  exact hk8 _ _ _ _ _ _ hres
set_option maxRecDepth 20000 in
theorem sn12_determinant_b169B {l : Launch} {G : am_G} {v : Int64} {M' : am_Mem} {N : Nat} {k8 : Nat → Int32 → Int64 → Int64 → Int32 → am_Mem → Option (Int64 × am_Mem)} {k157 : Nat → Int32 → Int64 → Int64 → Int32 → Int32 → am_Mem → Option (Int64 × am_Mem)} {k169 : Nat → Int32 → Int64 → Int64 → Int32 → Int32 → Int32 → am_Mem → Option (Int64 × am_Mem)} (cx : am_Ctx l rm12_determinant yX12_determinant cX12_determinant 11 (some .long) (some (.inr (.inl v))) M' 0 0 G) (hk8 : ∀ (r0 : Nat) (x1 : Int32) (j2 : Int64) (j4 : Int64) (x6 : Int32) (M : am_Mem), k8 r0 x1 j2 j4 x6 M = some (v, M') → G 8 [(0, .inr (.inr (.inl r0))), (1, .inl x1), (2, .inr (.inl j2)), (4, .inr (.inl j4)), (6, .inl x6)] [] M 0 0) (hk157 : ∀ (r0 : Nat) (x1 : Int32) (j2 : Int64) (j4 : Int64) (x6 : Int32) (x8 : Int32) (M : am_Mem), k157 r0 x1 j2 j4 x6 x8 M = some (v, M') → G 157 [(0, .inr (.inr (.inl r0))), (1, .inl x1), (2, .inr (.inl j2)), (4, .inr (.inl j4)), (6, .inl x6), (8, .inl x8)] [] M 0 0) (hk169 : ∀ (r0 : Nat) (x1 : Int32) (j2 : Int64) (j4 : Int64) (x6 : Int32) (x8 : Int32) (x9 : Int32) (M : am_Mem), k169 r0 x1 j2 j4 x6 x8 x9 M = some (v, M') → G 169 [(0, .inr (.inr (.inl r0))), (1, .inl x1), (2, .inr (.inl j2)), (4, .inr (.inl j4)), (6, .inl x6), (8, .inl x8), (9, .inl x9)] [] M 0 0) {r0 : Nat} {x1 : Int32} {j2 : Int64} {j4 : Int64} {x6 : Int32} {x8 : Int32} {x9 : Int32} {M : am_Mem} (hres : fn12_determinant_b169B N k8 k157 k169 r0 x1 j2 j4 x6 x8 x9 M = some (v, M')) : G 169 [(0, .inr (.inr (.inl r0))), (1, .inl x1), (2, .inr (.inl j2)), (4, .inr (.inl j4)), (6, .inl x6), (8, .inl x8), (9, .inl x9)] [] M 0 0 := by
  unfold fn12_determinant_b169B at hres
  refine am_iload cx 6 dX12_determinant_169 rfl ?_
  refine am_iload_n cx 1 dX12_determinant_171 rfl ?_
  refine am_icmp_ge cx (tgt := 251) dX12_determinant_172 (by decide) (fun h => ?_) (fun h => ?_)
  · have hres := am_ifp h hres
    refine am_iincw cx (lv' := [(0, .inr (.inr (.inl r0))), (1, .inl x1), (2, .inr (.inl j2)), (4, .inr (.inl j4)), (6, .inl x6), (8, .inl (x8 + (1 : Int32))), (9, .inl x9)]) (w := (1 : Int32)) 5 dX12_determinant_251 (by decide) rfl (Nat.le_of_ble_eq_true rfl) rfl ?_
    refine am_goto cx (tgt := 157) dX12_determinant_254 (by decide) ?_
    refine am_sub cx [0, 1, 2, 3, 4, 5] rfl ?_
    exact hk157 _ _ _ _ _ _ _ hres
  · have hres := am_ifn h hres
    refine am_aload_n cx 0 dX12_determinant_175 rfl ?_
    obtain ⟨q1, hres⟩ := am_ck_some hres
    refine am_getR cx dX12_determinant_176 flX12_79 (am_ke q1) ?_
    refine am_bipush cx (v := (8 : Int32)) dX12_determinant_179 (by decide) ?_
    refine am_iload cx 5 dX12_determinant_181 rfl ?_
    refine am_imul cx dX12_determinant_183 ?_
    refine am_iload cx 6 dX12_determinant_184 rfl ?_
    refine am_iadd cx dX12_determinant_186 ?_
    refine am_aload_n cx 0 dX12_determinant_187 rfl ?_
    refine am_getR cx dX12_determinant_188 flX12_79 (am_ke q1) ?_
    refine am_bipush cx (v := (8 : Int32)) dX12_determinant_191 (by decide) ?_
    refine am_iload cx 5 dX12_determinant_193 rfl ?_
    refine am_imul cx dX12_determinant_195 ?_
    refine am_iload cx 6 dX12_determinant_196 rfl ?_
    refine am_iadd cx dX12_determinant_198 ?_
    obtain ⟨q2, hres⟩ := am_ck_some hres
    obtain ⟨q3, hres⟩ := am_ck_some hres
    refine am_lald cx dX12_determinant_199 (am_ke q2) q3 ?_
    refine am_aload_n cx 0 dX12_determinant_200 rfl ?_
    refine am_getR cx dX12_determinant_201 flX12_79 (am_ke q1) ?_
    refine am_bipush cx (v := (8 : Int32)) dX12_determinant_204 (by decide) ?_
    refine am_iload cx 4 dX12_determinant_206 rfl ?_
    refine am_imul cx dX12_determinant_208 ?_
    refine am_iload cx 4 dX12_determinant_209 rfl ?_
    refine am_iadd cx dX12_determinant_211 ?_
    obtain ⟨q4, hres⟩ := am_ck_some hres
    refine am_lald cx dX12_determinant_212 (am_ke q2) q4 ?_
    refine am_lmul cx dX12_determinant_213 ?_
    refine am_aload_n cx 0 dX12_determinant_214 rfl ?_
    refine am_getR cx dX12_determinant_215 flX12_79 (am_ke q1) ?_
    refine am_bipush cx (v := (8 : Int32)) dX12_determinant_218 (by decide) ?_
    refine am_iload cx 5 dX12_determinant_220 rfl ?_
    refine am_imul cx dX12_determinant_222 ?_
    refine am_iload cx 4 dX12_determinant_223 rfl ?_
    refine am_iadd cx dX12_determinant_225 ?_
    obtain ⟨q5, hres⟩ := am_ck_some hres
    refine am_lald cx dX12_determinant_226 (am_ke q2) q5 ?_
    refine am_aload_n cx 0 dX12_determinant_227 rfl ?_
    refine am_getR cx dX12_determinant_228 flX12_79 (am_ke q1) ?_
    refine am_bipush cx (v := (8 : Int32)) dX12_determinant_231 (by decide) ?_
    refine am_iload cx 4 dX12_determinant_233 rfl ?_
    refine am_imul cx dX12_determinant_235 ?_
    refine am_iload cx 6 dX12_determinant_236 rfl ?_
    refine am_iadd cx dX12_determinant_238 ?_
    obtain ⟨q6, hres⟩ := am_ck_some hres
    refine am_lald cx dX12_determinant_239 (am_ke q2) q6 ?_
    refine am_lmul cx dX12_determinant_240 ?_
    refine am_lsub cx dX12_determinant_241 ?_
    refine am_lload_n cx 2 dX12_determinant_242 rfl ?_
    obtain ⟨q7, hres⟩ := am_ck_some hres
    refine am_ldiv cx dX12_determinant_243 (of_decide_eq_true q7) ?_
    obtain ⟨q8, hres⟩ := am_ck_some hres
    refine am_last cx dX12_determinant_244 (am_ke q2) q8  ?_
    refine am_iincw cx (lv' := [(0, .inr (.inr (.inl r0))), (1, .inl x1), (2, .inr (.inl j2)), (4, .inr (.inl j4)), (6, .inl x6), (8, .inl x8), (9, .inl (x9 + (1 : Int32)))]) (w := (1 : Int32)) 6 dX12_determinant_245 (by decide) rfl (Nat.le_of_ble_eq_true rfl) rfl ?_
    refine am_goto cx (tgt := 169) dX12_determinant_248 (by decide) ?_
    exact hk169 _ _ _ _ _ _ _ _ hres
set_option maxRecDepth 20000 in
theorem sn12_determinant_b169 {l : Launch} {G : am_G} {v : Int64} {M' : am_Mem} {N : Nat} {k8 : Nat → Int32 → Int64 → Int64 → Int32 → am_Mem → Option (Int64 × am_Mem)} {k157 : Nat → Int32 → Int64 → Int64 → Int32 → Int32 → am_Mem → Option (Int64 × am_Mem)} (cx : am_Ctx l rm12_determinant yX12_determinant cX12_determinant 11 (some .long) (some (.inr (.inl v))) M' 0 0 G) (hk8 : ∀ (r0 : Nat) (x1 : Int32) (j2 : Int64) (j4 : Int64) (x6 : Int32) (M : am_Mem), k8 r0 x1 j2 j4 x6 M = some (v, M') → G 8 [(0, .inr (.inr (.inl r0))), (1, .inl x1), (2, .inr (.inl j2)), (4, .inr (.inl j4)), (6, .inl x6)] [] M 0 0) (hk157 : ∀ (r0 : Nat) (x1 : Int32) (j2 : Int64) (j4 : Int64) (x6 : Int32) (x8 : Int32) (M : am_Mem), k157 r0 x1 j2 j4 x6 x8 M = some (v, M') → G 157 [(0, .inr (.inr (.inl r0))), (1, .inl x1), (2, .inr (.inl j2)), (4, .inr (.inl j4)), (6, .inl x6), (8, .inl x8)] [] M 0 0) (i : Nat) : ∀ (r0 : Nat) (x1 : Int32) (j2 : Int64) (j4 : Int64) (x6 : Int32) (x8 : Int32) (x9 : Int32) (M : am_Mem), fn12_determinant_b169 N k8 k157 i r0 x1 j2 j4 x6 x8 x9 M = some (v, M') → G 169 [(0, .inr (.inr (.inl r0))), (1, .inl x1), (2, .inr (.inl j2)), (4, .inr (.inl j4)), (6, .inl x6), (8, .inl x8), (9, .inl x9)] [] M 0 0 := by
  induction i with
  | zero => intro r0 x1 j2 j4 x6 x8 x9 M hres; exact am_no hres
  | succ i ih => intro r0 x1 j2 j4 x6 x8 x9 M hres; exact sn12_determinant_b169B cx hk8 hk157 ih hres
set_option maxRecDepth 20000 in
theorem sn12_determinant_b157B {l : Launch} {G : am_G} {v : Int64} {M' : am_Mem} {N : Nat} {k8 : Nat → Int32 → Int64 → Int64 → Int32 → am_Mem → Option (Int64 × am_Mem)} {k157 : Nat → Int32 → Int64 → Int64 → Int32 → Int32 → am_Mem → Option (Int64 × am_Mem)} (cx : am_Ctx l rm12_determinant yX12_determinant cX12_determinant 11 (some .long) (some (.inr (.inl v))) M' 0 0 G) (hk8 : ∀ (r0 : Nat) (x1 : Int32) (j2 : Int64) (j4 : Int64) (x6 : Int32) (M : am_Mem), k8 r0 x1 j2 j4 x6 M = some (v, M') → G 8 [(0, .inr (.inr (.inl r0))), (1, .inl x1), (2, .inr (.inl j2)), (4, .inr (.inl j4)), (6, .inl x6)] [] M 0 0) (hk157 : ∀ (r0 : Nat) (x1 : Int32) (j2 : Int64) (j4 : Int64) (x6 : Int32) (x8 : Int32) (M : am_Mem), k157 r0 x1 j2 j4 x6 x8 M = some (v, M') → G 157 [(0, .inr (.inr (.inl r0))), (1, .inl x1), (2, .inr (.inl j2)), (4, .inr (.inl j4)), (6, .inl x6), (8, .inl x8)] [] M 0 0) {r0 : Nat} {x1 : Int32} {j2 : Int64} {j4 : Int64} {x6 : Int32} {x8 : Int32} {M : am_Mem} (hres : fn12_determinant_b157B N k8 k157 r0 x1 j2 j4 x6 x8 M = some (v, M')) : G 157 [(0, .inr (.inr (.inl r0))), (1, .inl x1), (2, .inr (.inl j2)), (4, .inr (.inl j4)), (6, .inl x6), (8, .inl x8)] [] M 0 0 := by
  unfold fn12_determinant_b157B at hres
  refine am_iload cx 5 dX12_determinant_157 rfl ?_
  refine am_iload_n cx 1 dX12_determinant_159 rfl ?_
  refine am_icmp_ge cx (tgt := 257) dX12_determinant_160 (by decide) (fun h => ?_) (fun h => ?_)
  · have hres := am_ifp h hres
    refine am_aload_n cx 0 dX12_determinant_257 rfl ?_
    obtain ⟨q1, hres⟩ := am_ck_some hres
    refine am_getR cx dX12_determinant_258 flX12_79 (am_ke q1) ?_
    refine am_bipush cx (v := (8 : Int32)) dX12_determinant_261 (by decide) ?_
    refine am_iload cx 4 dX12_determinant_263 rfl ?_
    refine am_imul cx dX12_determinant_265 ?_
    refine am_iload cx 4 dX12_determinant_266 rfl ?_
    refine am_iadd cx dX12_determinant_268 ?_
    obtain ⟨q2, hres⟩ := am_ck_some hres
    obtain ⟨q3, hres⟩ := am_ck_some hres
    refine am_lald cx dX12_determinant_269 (am_ke q2) q3 ?_
    refine am_lstore_n cx (lv' := [(0, .inr (.inr (.inl r0))), (1, .inl x1), (2, .inr (.inl (am_J M (am_R M r0 36) (((8 : Int32) * x6) + x6).toNatClampNeg))), (4, .inr (.inl j4)), (6, .inl x6), (8, .inl x8)]) dX12_determinant_270 (Nat.le_of_ble_eq_true rfl) rfl ?_
    refine am_sub cx [0, 1, 2, 3, 4] rfl ?_
    exact sn12_determinant_b271 cx hk8 hres
  · have hres := am_ifn h hres
    refine am_iload cx 4 dX12_determinant_163 rfl ?_
    refine am_iconst cx (v := (1 : Int32)) dX12_determinant_165 (by decide) ?_
    refine am_iadd cx dX12_determinant_166 ?_
    refine am_istore cx (lv' := [(0, .inr (.inr (.inl r0))), (1, .inl x1), (2, .inr (.inl j2)), (4, .inr (.inl j4)), (6, .inl x6), (8, .inl x8), (9, .inl (x6 + (1 : Int32)))]) dX12_determinant_167 (Nat.le_of_ble_eq_true rfl) rfl ?_
    exact sn12_determinant_b169 cx hk8 hk157 N _ _ _ _ _ _ _ _ hres
set_option maxRecDepth 20000 in
theorem sn12_determinant_b157 {l : Launch} {G : am_G} {v : Int64} {M' : am_Mem} {N : Nat} {k8 : Nat → Int32 → Int64 → Int64 → Int32 → am_Mem → Option (Int64 × am_Mem)} (cx : am_Ctx l rm12_determinant yX12_determinant cX12_determinant 11 (some .long) (some (.inr (.inl v))) M' 0 0 G) (hk8 : ∀ (r0 : Nat) (x1 : Int32) (j2 : Int64) (j4 : Int64) (x6 : Int32) (M : am_Mem), k8 r0 x1 j2 j4 x6 M = some (v, M') → G 8 [(0, .inr (.inr (.inl r0))), (1, .inl x1), (2, .inr (.inl j2)), (4, .inr (.inl j4)), (6, .inl x6)] [] M 0 0) (i : Nat) : ∀ (r0 : Nat) (x1 : Int32) (j2 : Int64) (j4 : Int64) (x6 : Int32) (x8 : Int32) (M : am_Mem), fn12_determinant_b157 N k8 i r0 x1 j2 j4 x6 x8 M = some (v, M') → G 157 [(0, .inr (.inr (.inl r0))), (1, .inl x1), (2, .inr (.inl j2)), (4, .inr (.inl j4)), (6, .inl x6), (8, .inl x8)] [] M 0 0 := by
  induction i with
  | zero => intro r0 x1 j2 j4 x6 x8 M hres; exact am_no hres
  | succ i ih => intro r0 x1 j2 j4 x6 x8 M hres; exact sn12_determinant_b157B cx hk8 ih hres
set_option maxRecDepth 20000 in
theorem sn12_determinant_b151 {l : Launch} {G : am_G} {v : Int64} {M' : am_Mem} {N : Nat} {k8 : Nat → Int32 → Int64 → Int64 → Int32 → am_Mem → Option (Int64 × am_Mem)} (cx : am_Ctx l rm12_determinant yX12_determinant cX12_determinant 11 (some .long) (some (.inr (.inl v))) M' 0 0 G) (hk8 : ∀ (r0 : Nat) (x1 : Int32) (j2 : Int64) (j4 : Int64) (x6 : Int32) (M : am_Mem), k8 r0 x1 j2 j4 x6 M = some (v, M') → G 8 [(0, .inr (.inr (.inl r0))), (1, .inl x1), (2, .inr (.inl j2)), (4, .inr (.inl j4)), (6, .inl x6)] [] M 0 0) {r0 : Nat} {x1 : Int32} {j2 : Int64} {j4 : Int64} {x6 : Int32} {M : am_Mem} (hres : fn12_determinant_b151 N k8 r0 x1 j2 j4 x6 M = some (v, M')) : G 151 [(0, .inr (.inr (.inl r0))), (1, .inl x1), (2, .inr (.inl j2)), (4, .inr (.inl j4)), (6, .inl x6)] [] M 0 0 := by
  unfold fn12_determinant_b151 at hres
  refine am_iload cx 4 dX12_determinant_151 rfl ?_
  refine am_iconst cx (v := (1 : Int32)) dX12_determinant_153 (by decide) ?_
  refine am_iadd cx dX12_determinant_154 ?_
  refine am_istore cx (lv' := [(0, .inr (.inr (.inl r0))), (1, .inl x1), (2, .inr (.inl j2)), (4, .inr (.inl j4)), (6, .inl x6), (8, .inl (x6 + (1 : Int32)))]) dX12_determinant_155 (Nat.le_of_ble_eq_true rfl) rfl ?_
  exact sn12_determinant_b157 cx hk8 N _ _ _ _ _ _ _ hres
set_option maxRecDepth 20000 in
theorem sn12_determinant_b149 {l : Launch} {G : am_G} {v : Int64} {M' : am_Mem} {N : Nat} {k8 : Nat → Int32 → Int64 → Int64 → Int32 → am_Mem → Option (Int64 × am_Mem)} (cx : am_Ctx l rm12_determinant yX12_determinant cX12_determinant 11 (some .long) (some (.inr (.inl v))) M' 0 0 G) (hk8 : ∀ (r0 : Nat) (x1 : Int32) (j2 : Int64) (j4 : Int64) (x6 : Int32) (M : am_Mem), k8 r0 x1 j2 j4 x6 M = some (v, M') → G 8 [(0, .inr (.inr (.inl r0))), (1, .inl x1), (2, .inr (.inl j2)), (4, .inr (.inl j4)), (6, .inl x6)] [] M 0 0) {b0 : Int64} {r0 : Nat} {x1 : Int32} {j2 : Int64} {x6 : Int32} {M : am_Mem} (hres : fn12_determinant_b149 N k8 b0 r0 x1 j2 x6 M = some (v, M')) : G 149 [(0, .inr (.inr (.inl r0))), (1, .inl x1), (2, .inr (.inl j2)), (6, .inl x6)] [.inr (.inl b0)] M 0 0 := by
  unfold fn12_determinant_b149 at hres
  refine am_lstore cx (lv' := [(0, .inr (.inr (.inl r0))), (1, .inl x1), (2, .inr (.inl j2)), (4, .inr (.inl b0)), (6, .inl x6)]) dX12_determinant_149 (Nat.le_of_ble_eq_true rfl) rfl ?_
  exact sn12_determinant_b151 cx hk8 hres
set_option maxRecDepth 20000 in
theorem sn12_determinant_b134 {l : Launch} {G : am_G} {v : Int64} {M' : am_Mem} {N : Nat} {k8 : Nat → Int32 → Int64 → Int64 → Int32 → am_Mem → Option (Int64 × am_Mem)} (cx : am_Ctx l rm12_determinant yX12_determinant cX12_determinant 11 (some .long) (some (.inr (.inl v))) M' 0 0 G) (hk8 : ∀ (r0 : Nat) (x1 : Int32) (j2 : Int64) (j4 : Int64) (x6 : Int32) (M : am_Mem), k8 r0 x1 j2 j4 x6 M = some (v, M') → G 8 [(0, .inr (.inr (.inl r0))), (1, .inl x1), (2, .inr (.inl j2)), (4, .inr (.inl j4)), (6, .inl x6)] [] M 0 0) {r0 : Nat} {x1 : Int32} {j2 : Int64} {j4 : Int64} {x6 : Int32} {x7 : Int32} {M : am_Mem} (hres : fn12_determinant_b134 N k8 r0 x1 j2 j4 x6 x7 M = some (v, M')) : G 134 [(0, .inr (.inr (.inl r0))), (1, .inl x1), (2, .inr (.inl j2)), (4, .inr (.inl j4)), (6, .inl x6), (7, .inl x7)] [] M 0 0 := by
  unfold fn12_determinant_b134 at hres
  refine am_iload cx 5 dX12_determinant_134 rfl ?_
  refine am_iload cx 4 dX12_determinant_136 rfl ?_
  refine am_icmp_ne cx (tgt := 146) dX12_determinant_138 (by decide) (fun h => ?_) (fun h => ?_)
  · have hres := am_ifn h hres
    refine am_lload cx 3 dX12_determinant_146 rfl ?_
    refine am_lneg cx dX12_determinant_148 ?_
    refine am_sub cx [0, 1, 2, 4] rfl ?_
    exact sn12_determinant_b149 cx hk8 hres
  · have hres := am_ifp h hres
    refine am_lload cx 3 dX12_determinant_141 rfl ?_
    refine am_goto cx (tgt := 149) dX12_determinant_143 (by decide) ?_
    refine am_sub cx [0, 1, 2, 4] rfl ?_
    exact sn12_determinant_b149 cx hk8 hres
set_option maxRecDepth 20000 in
theorem sn12_determinant_b87 {l : Launch} {G : am_G} {v : Int64} {M' : am_Mem} {N : Nat} {k8 : Nat → Int32 → Int64 → Int64 → Int32 → am_Mem → Option (Int64 × am_Mem)} {k59 : Nat → Int32 → Int64 → Int64 → Int32 → Int32 → Int32 → am_Mem → Option (Int64 × am_Mem)} (cx : am_Ctx l rm12_determinant yX12_determinant cX12_determinant 11 (some .long) (some (.inr (.inl v))) M' 0 0 G) (hk8 : ∀ (r0 : Nat) (x1 : Int32) (j2 : Int64) (j4 : Int64) (x6 : Int32) (M : am_Mem), k8 r0 x1 j2 j4 x6 M = some (v, M') → G 8 [(0, .inr (.inr (.inl r0))), (1, .inl x1), (2, .inr (.inl j2)), (4, .inr (.inl j4)), (6, .inl x6)] [] M 0 0) (hk59 : ∀ (r0 : Nat) (x1 : Int32) (j2 : Int64) (j4 : Int64) (x6 : Int32) (x7 : Int32) (x8 : Int32) (M : am_Mem), k59 r0 x1 j2 j4 x6 x7 x8 M = some (v, M') → G 59 [(0, .inr (.inr (.inl r0))), (1, .inl x1), (2, .inr (.inl j2)), (4, .inr (.inl j4)), (6, .inl x6), (7, .inl x7), (8, .inl x8)] [] M 0 0) {r0 : Nat} {x1 : Int32} {j2 : Int64} {j4 : Int64} {x6 : Int32} {x7 : Int32} {x8 : Int32} {j9 : Int64} {M : am_Mem} (hres : fn12_determinant_b87 N k8 k59 r0 x1 j2 j4 x6 x7 x8 j9 M = some (v, M')) : G 87 [(0, .inr (.inr (.inl r0))), (1, .inl x1), (2, .inr (.inl j2)), (4, .inr (.inl j4)), (6, .inl x6), (7, .inl x7), (8, .inl x8), (9, .inr (.inl j9))] [] M 0 0 := by
  unfold fn12_determinant_b87 at hres
  refine am_aload_n cx 0 dX12_determinant_87 rfl ?_
  obtain ⟨q1, hres⟩ := am_ck_some hres
  refine am_getR cx dX12_determinant_88 flX12_79 (am_ke q1) ?_
  refine am_bipush cx (v := (8 : Int32)) dX12_determinant_91 (by decide) ?_
  refine am_iload cx 5 dX12_determinant_93 rfl ?_
  refine am_imul cx dX12_determinant_95 ?_
  refine am_iload cx 6 dX12_determinant_96 rfl ?_
  refine am_iadd cx dX12_determinant_98 ?_
  refine am_aload_n cx 0 dX12_determinant_99 rfl ?_
  refine am_getR cx dX12_determinant_100 flX12_79 (am_ke q1) ?_
  refine am_bipush cx (v := (8 : Int32)) dX12_determinant_103 (by decide) ?_
  refine am_iload cx 4 dX12_determinant_105 rfl ?_
  refine am_imul cx dX12_determinant_107 ?_
  refine am_iload cx 6 dX12_determinant_108 rfl ?_
  refine am_iadd cx dX12_determinant_110 ?_
  obtain ⟨q2, hres⟩ := am_ck_some hres
  obtain ⟨q3, hres⟩ := am_ck_some hres
  refine am_lald cx dX12_determinant_111 (am_ke q2) q3 ?_
  obtain ⟨q4, hres⟩ := am_ck_some hres
  refine am_last cx dX12_determinant_112 (am_ke q2) q4  ?_
  refine am_aload_n cx 0 dX12_determinant_113 rfl ?_
  refine am_getR cx dX12_determinant_114 flX12_79 (am_ke q1) ?_
  refine am_bipush cx (v := (8 : Int32)) dX12_determinant_117 (by decide) ?_
  refine am_iload cx 4 dX12_determinant_119 rfl ?_
  refine am_imul cx dX12_determinant_121 ?_
  refine am_iload cx 6 dX12_determinant_122 rfl ?_
  refine am_iadd cx dX12_determinant_124 ?_
  refine am_lload cx 7 dX12_determinant_125 rfl ?_
  obtain ⟨q5, hres⟩ := am_ck_some hres
  refine am_last cx dX12_determinant_127 (am_ke q2) q5  ?_
  refine am_iincw cx (lv' := [(0, .inr (.inr (.inl r0))), (1, .inl x1), (2, .inr (.inl j2)), (4, .inr (.inl j4)), (6, .inl x6), (7, .inl x7), (8, .inl (x8 + (1 : Int32))), (9, .inr (.inl j9))]) (w := (1 : Int32)) 6 dX12_determinant_128 (by decide) rfl (Nat.le_of_ble_eq_true rfl) rfl ?_
  refine am_goto cx (tgt := 59) dX12_determinant_131 (by decide) ?_
  refine am_sub cx [0, 1, 2, 3, 4, 5, 6] rfl ?_
  exact hk59 _ _ _ _ _ _ _ _ hres
set_option maxRecDepth 20000 in
theorem sn12_determinant_b59B {l : Launch} {G : am_G} {v : Int64} {M' : am_Mem} {N : Nat} {k8 : Nat → Int32 → Int64 → Int64 → Int32 → am_Mem → Option (Int64 × am_Mem)} {k59 : Nat → Int32 → Int64 → Int64 → Int32 → Int32 → Int32 → am_Mem → Option (Int64 × am_Mem)} (cx : am_Ctx l rm12_determinant yX12_determinant cX12_determinant 11 (some .long) (some (.inr (.inl v))) M' 0 0 G) (hk8 : ∀ (r0 : Nat) (x1 : Int32) (j2 : Int64) (j4 : Int64) (x6 : Int32) (M : am_Mem), k8 r0 x1 j2 j4 x6 M = some (v, M') → G 8 [(0, .inr (.inr (.inl r0))), (1, .inl x1), (2, .inr (.inl j2)), (4, .inr (.inl j4)), (6, .inl x6)] [] M 0 0) (hk59 : ∀ (r0 : Nat) (x1 : Int32) (j2 : Int64) (j4 : Int64) (x6 : Int32) (x7 : Int32) (x8 : Int32) (M : am_Mem), k59 r0 x1 j2 j4 x6 x7 x8 M = some (v, M') → G 59 [(0, .inr (.inr (.inl r0))), (1, .inl x1), (2, .inr (.inl j2)), (4, .inr (.inl j4)), (6, .inl x6), (7, .inl x7), (8, .inl x8)] [] M 0 0) {r0 : Nat} {x1 : Int32} {j2 : Int64} {j4 : Int64} {x6 : Int32} {x7 : Int32} {x8 : Int32} {M : am_Mem} (hres : fn12_determinant_b59B N k8 k59 r0 x1 j2 j4 x6 x7 x8 M = some (v, M')) : G 59 [(0, .inr (.inr (.inl r0))), (1, .inl x1), (2, .inr (.inl j2)), (4, .inr (.inl j4)), (6, .inl x6), (7, .inl x7), (8, .inl x8)] [] M 0 0 := by
  unfold fn12_determinant_b59B at hres
  refine am_iload cx 6 dX12_determinant_59 rfl ?_
  refine am_iload_n cx 1 dX12_determinant_61 rfl ?_
  refine am_icmp_ge cx (tgt := 134) dX12_determinant_62 (by decide) (fun h => ?_) (fun h => ?_)
  · have hres := am_ifp h hres
    refine am_sub cx [0, 1, 2, 3, 4, 5] rfl ?_
    exact sn12_determinant_b134 cx hk8 hres
  · have hres := am_ifn h hres
    refine am_iload cx 5 dX12_determinant_65 rfl ?_
    refine am_iload cx 4 dX12_determinant_67 rfl ?_
    refine am_icmp_eq cx (tgt := 134) dX12_determinant_69 (by decide) (fun h => ?_) (fun h => ?_)
    · have hres := am_ifp h hres
      refine am_sub cx [0, 1, 2, 3, 4, 5] rfl ?_
      exact sn12_determinant_b134 cx hk8 hres
    · have hres := am_ifn h hres
      refine am_aload_n cx 0 dX12_determinant_72 rfl ?_
      obtain ⟨q1, hres⟩ := am_ck_some hres
      refine am_getR cx dX12_determinant_73 flX12_79 (am_ke q1) ?_
      refine am_bipush cx (v := (8 : Int32)) dX12_determinant_76 (by decide) ?_
      refine am_iload cx 5 dX12_determinant_78 rfl ?_
      refine am_imul cx dX12_determinant_80 ?_
      refine am_iload cx 6 dX12_determinant_81 rfl ?_
      refine am_iadd cx dX12_determinant_83 ?_
      obtain ⟨q2, hres⟩ := am_ck_some hres
      obtain ⟨q3, hres⟩ := am_ck_some hres
      refine am_lald cx dX12_determinant_84 (am_ke q2) q3 ?_
      refine am_lstore cx (lv' := [(0, .inr (.inr (.inl r0))), (1, .inl x1), (2, .inr (.inl j2)), (4, .inr (.inl j4)), (6, .inl x6), (7, .inl x7), (8, .inl x8), (9, .inr (.inl (am_J M (am_R M r0 36) (((8 : Int32) * x7) + x8).toNatClampNeg)))]) dX12_determinant_85 (Nat.le_of_ble_eq_true rfl) rfl ?_
      exact sn12_determinant_b87 cx hk8 hk59 hres
set_option maxRecDepth 20000 in
theorem sn12_determinant_b59 {l : Launch} {G : am_G} {v : Int64} {M' : am_Mem} {N : Nat} {k8 : Nat → Int32 → Int64 → Int64 → Int32 → am_Mem → Option (Int64 × am_Mem)} (cx : am_Ctx l rm12_determinant yX12_determinant cX12_determinant 11 (some .long) (some (.inr (.inl v))) M' 0 0 G) (hk8 : ∀ (r0 : Nat) (x1 : Int32) (j2 : Int64) (j4 : Int64) (x6 : Int32) (M : am_Mem), k8 r0 x1 j2 j4 x6 M = some (v, M') → G 8 [(0, .inr (.inr (.inl r0))), (1, .inl x1), (2, .inr (.inl j2)), (4, .inr (.inl j4)), (6, .inl x6)] [] M 0 0) (i : Nat) : ∀ (r0 : Nat) (x1 : Int32) (j2 : Int64) (j4 : Int64) (x6 : Int32) (x7 : Int32) (x8 : Int32) (M : am_Mem), fn12_determinant_b59 N k8 i r0 x1 j2 j4 x6 x7 x8 M = some (v, M') → G 59 [(0, .inr (.inr (.inl r0))), (1, .inl x1), (2, .inr (.inl j2)), (4, .inr (.inl j4)), (6, .inl x6), (7, .inl x7), (8, .inl x8)] [] M 0 0 := by
  induction i with
  | zero => intro r0 x1 j2 j4 x6 x7 x8 M hres; exact am_no hres
  | succ i ih => intro r0 x1 j2 j4 x6 x7 x8 M hres; exact sn12_determinant_b59B cx hk8 ih hres
set_option maxRecDepth 20000 in
theorem sn12_determinant_b48 {l : Launch} {G : am_G} {v : Int64} {M' : am_Mem} {N : Nat} {k8 : Nat → Int32 → Int64 → Int64 → Int32 → am_Mem → Option (Int64 × am_Mem)} (cx : am_Ctx l rm12_determinant yX12_determinant cX12_determinant 11 (some .long) (some (.inr (.inl v))) M' 0 0 G) (hk8 : ∀ (r0 : Nat) (x1 : Int32) (j2 : Int64) (j4 : Int64) (x6 : Int32) (M : am_Mem), k8 r0 x1 j2 j4 x6 M = some (v, M') → G 8 [(0, .inr (.inr (.inl r0))), (1, .inl x1), (2, .inr (.inl j2)), (4, .inr (.inl j4)), (6, .inl x6)] [] M 0 0) {r0 : Nat} {x1 : Int32} {j2 : Int64} {j4 : Int64} {x6 : Int32} {x7 : Int32} {M : am_Mem} (hres : fn12_determinant_b48 N k8 r0 x1 j2 j4 x6 x7 M = some (v, M')) : G 48 [(0, .inr (.inr (.inl r0))), (1, .inl x1), (2, .inr (.inl j2)), (4, .inr (.inl j4)), (6, .inl x6), (7, .inl x7)] [] M 0 0 := by
  unfold fn12_determinant_b48 at hres
  refine am_iload cx 5 dX12_determinant_48 rfl ?_
  refine am_iload_n cx 1 dX12_determinant_50 rfl ?_
  refine am_icmp_ne cx (tgt := 56) dX12_determinant_51 (by decide) (fun h => ?_) (fun h => ?_)
  · have hres := am_ifn h hres
    refine am_iconst cx (v := (0 : Int32)) dX12_determinant_56 (by decide) ?_
    refine am_istore cx (lv' := [(0, .inr (.inr (.inl r0))), (1, .inl x1), (2, .inr (.inl j2)), (4, .inr (.inl j4)), (6, .inl x6), (7, .inl x7), (8, .inl (0 : Int32))]) dX12_determinant_57 (Nat.le_of_ble_eq_true rfl) rfl ?_
    exact sn12_determinant_b59 cx hk8 N _ _ _ _ _ _ _ _ hres
  · have hres := am_ifp h hres
    refine am_lconst cx (v := (0 : Int64)) dX12_determinant_54 (by decide) ?_
    obtain ⟨rfl, rfl⟩ := am_fin hres
    exact am_lret cx dX12_determinant_55
set_option maxRecDepth 20000 in
theorem sn12_determinant_b18B {l : Launch} {G : am_G} {v : Int64} {M' : am_Mem} {N : Nat} {k8 : Nat → Int32 → Int64 → Int64 → Int32 → am_Mem → Option (Int64 × am_Mem)} {k18 : Nat → Int32 → Int64 → Int64 → Int32 → Int32 → am_Mem → Option (Int64 × am_Mem)} (cx : am_Ctx l rm12_determinant yX12_determinant cX12_determinant 11 (some .long) (some (.inr (.inl v))) M' 0 0 G) (hk8 : ∀ (r0 : Nat) (x1 : Int32) (j2 : Int64) (j4 : Int64) (x6 : Int32) (M : am_Mem), k8 r0 x1 j2 j4 x6 M = some (v, M') → G 8 [(0, .inr (.inr (.inl r0))), (1, .inl x1), (2, .inr (.inl j2)), (4, .inr (.inl j4)), (6, .inl x6)] [] M 0 0) (hk18 : ∀ (r0 : Nat) (x1 : Int32) (j2 : Int64) (j4 : Int64) (x6 : Int32) (x7 : Int32) (M : am_Mem), k18 r0 x1 j2 j4 x6 x7 M = some (v, M') → G 18 [(0, .inr (.inr (.inl r0))), (1, .inl x1), (2, .inr (.inl j2)), (4, .inr (.inl j4)), (6, .inl x6), (7, .inl x7)] [] M 0 0) {r0 : Nat} {x1 : Int32} {j2 : Int64} {j4 : Int64} {x6 : Int32} {x7 : Int32} {M : am_Mem} (hres : fn12_determinant_b18B N k8 k18 r0 x1 j2 j4 x6 x7 M = some (v, M')) : G 18 [(0, .inr (.inr (.inl r0))), (1, .inl x1), (2, .inr (.inl j2)), (4, .inr (.inl j4)), (6, .inl x6), (7, .inl x7)] [] M 0 0 := by
  unfold fn12_determinant_b18B at hres
  refine am_iload cx 5 dX12_determinant_18 rfl ?_
  refine am_iload_n cx 1 dX12_determinant_20 rfl ?_
  refine am_icmp_ge cx (tgt := 48) dX12_determinant_21 (by decide) (fun h => ?_) (fun h => ?_)
  · have hres := am_ifp h hres
    exact sn12_determinant_b48 cx hk8 hres
  · have hres := am_ifn h hres
    refine am_aload_n cx 0 dX12_determinant_24 rfl ?_
    obtain ⟨q1, hres⟩ := am_ck_some hres
    refine am_getR cx dX12_determinant_25 flX12_79 (am_ke q1) ?_
    refine am_bipush cx (v := (8 : Int32)) dX12_determinant_28 (by decide) ?_
    refine am_iload cx 5 dX12_determinant_30 rfl ?_
    refine am_imul cx dX12_determinant_32 ?_
    refine am_iload cx 4 dX12_determinant_33 rfl ?_
    refine am_iadd cx dX12_determinant_35 ?_
    obtain ⟨q2, hres⟩ := am_ck_some hres
    obtain ⟨q3, hres⟩ := am_ck_some hres
    refine am_lald cx dX12_determinant_36 (am_ke q2) q3 ?_
    refine am_lconst cx (v := (0 : Int64)) dX12_determinant_37 (by decide) ?_
    refine am_lcmp cx dX12_determinant_38 ?_
    refine am_if_ne cx (tgt := 48) dX12_determinant_39 (by decide) (fun h => ?_) (fun h => ?_)
    · have hres := am_ifn h hres
      exact sn12_determinant_b48 cx hk8 hres
    · have hres := am_ifp h hres
      refine am_iincw cx (lv' := [(0, .inr (.inr (.inl r0))), (1, .inl x1), (2, .inr (.inl j2)), (4, .inr (.inl j4)), (6, .inl x6), (7, .inl (x7 + (1 : Int32)))]) (w := (1 : Int32)) 5 dX12_determinant_42 (by decide) rfl (Nat.le_of_ble_eq_true rfl) rfl ?_
      refine am_goto cx (tgt := 18) dX12_determinant_45 (by decide) ?_
      exact hk18 _ _ _ _ _ _ _ hres
set_option maxRecDepth 20000 in
theorem sn12_determinant_b18 {l : Launch} {G : am_G} {v : Int64} {M' : am_Mem} {N : Nat} {k8 : Nat → Int32 → Int64 → Int64 → Int32 → am_Mem → Option (Int64 × am_Mem)} (cx : am_Ctx l rm12_determinant yX12_determinant cX12_determinant 11 (some .long) (some (.inr (.inl v))) M' 0 0 G) (hk8 : ∀ (r0 : Nat) (x1 : Int32) (j2 : Int64) (j4 : Int64) (x6 : Int32) (M : am_Mem), k8 r0 x1 j2 j4 x6 M = some (v, M') → G 8 [(0, .inr (.inr (.inl r0))), (1, .inl x1), (2, .inr (.inl j2)), (4, .inr (.inl j4)), (6, .inl x6)] [] M 0 0) (i : Nat) : ∀ (r0 : Nat) (x1 : Int32) (j2 : Int64) (j4 : Int64) (x6 : Int32) (x7 : Int32) (M : am_Mem), fn12_determinant_b18 N k8 i r0 x1 j2 j4 x6 x7 M = some (v, M') → G 18 [(0, .inr (.inr (.inl r0))), (1, .inl x1), (2, .inr (.inl j2)), (4, .inr (.inl j4)), (6, .inl x6), (7, .inl x7)] [] M 0 0 := by
  induction i with
  | zero => intro r0 x1 j2 j4 x6 x7 M hres; exact am_no hres
  | succ i ih => intro r0 x1 j2 j4 x6 x7 M hres; exact sn12_determinant_b18B cx hk8 ih hres
set_option maxRecDepth 20000 in
theorem sn12_determinant_b8B {l : Launch} {G : am_G} {v : Int64} {M' : am_Mem} {N : Nat} {k8 : Nat → Int32 → Int64 → Int64 → Int32 → am_Mem → Option (Int64 × am_Mem)} (cx : am_Ctx l rm12_determinant yX12_determinant cX12_determinant 11 (some .long) (some (.inr (.inl v))) M' 0 0 G) (hk8 : ∀ (r0 : Nat) (x1 : Int32) (j2 : Int64) (j4 : Int64) (x6 : Int32) (M : am_Mem), k8 r0 x1 j2 j4 x6 M = some (v, M') → G 8 [(0, .inr (.inr (.inl r0))), (1, .inl x1), (2, .inr (.inl j2)), (4, .inr (.inl j4)), (6, .inl x6)] [] M 0 0) {r0 : Nat} {x1 : Int32} {j2 : Int64} {j4 : Int64} {x6 : Int32} {M : am_Mem} (hres : fn12_determinant_b8B N k8 r0 x1 j2 j4 x6 M = some (v, M')) : G 8 [(0, .inr (.inr (.inl r0))), (1, .inl x1), (2, .inr (.inl j2)), (4, .inr (.inl j4)), (6, .inl x6)] [] M 0 0 := by
  unfold fn12_determinant_b8B at hres
  refine am_iload cx 4 dX12_determinant_8 rfl ?_
  refine am_iload_n cx 1 dX12_determinant_10 rfl ?_
  refine am_icmp_ge cx (tgt := 277) dX12_determinant_11 (by decide) (fun h => ?_) (fun h => ?_)
  · have hres := am_ifp h hres
    refine am_lload cx 3 dX12_determinant_277 rfl ?_
    refine am_lload_n cx 2 dX12_determinant_279 rfl ?_
    refine am_lmul cx dX12_determinant_280 ?_
    obtain ⟨rfl, rfl⟩ := am_fin hres
    exact am_lret cx dX12_determinant_281
  · have hres := am_ifn h hres
    refine am_iload cx 4 dX12_determinant_14 rfl ?_
    refine am_istore cx (lv' := [(0, .inr (.inr (.inl r0))), (1, .inl x1), (2, .inr (.inl j2)), (4, .inr (.inl j4)), (6, .inl x6), (7, .inl x6)]) dX12_determinant_16 (Nat.le_of_ble_eq_true rfl) rfl ?_
    exact sn12_determinant_b18 cx hk8 N _ _ _ _ _ _ _ hres
set_option maxRecDepth 20000 in
theorem sn12_determinant_b8 {l : Launch} {G : am_G} {v : Int64} {M' : am_Mem} {N : Nat}  (cx : am_Ctx l rm12_determinant yX12_determinant cX12_determinant 11 (some .long) (some (.inr (.inl v))) M' 0 0 G)  (i : Nat) : ∀ (r0 : Nat) (x1 : Int32) (j2 : Int64) (j4 : Int64) (x6 : Int32) (M : am_Mem), fn12_determinant_b8 N  i r0 x1 j2 j4 x6 M = some (v, M') → G 8 [(0, .inr (.inr (.inl r0))), (1, .inl x1), (2, .inr (.inl j2)), (4, .inr (.inl j4)), (6, .inl x6)] [] M 0 0 := by
  induction i with
  | zero => intro r0 x1 j2 j4 x6 M hres; exact am_no hres
  | succ i ih => intro r0 x1 j2 j4 x6 M hres; exact sn12_determinant_b8B cx ih hres
set_option maxRecDepth 20000 in
theorem sn12_determinant_b0 {l : Launch} {G : am_G} {v : Int64} {M' : am_Mem} {N : Nat}  (cx : am_Ctx l rm12_determinant yX12_determinant cX12_determinant 11 (some .long) (some (.inr (.inl v))) M' 0 0 G)  {r0 : Nat} {x1 : Int32} {M : am_Mem} (hres : fn12_determinant_b0 N  r0 x1 M = some (v, M')) : G 0 [(0, .inr (.inr (.inl r0))), (1, .inl x1)] [] M 0 0 := by
  unfold fn12_determinant_b0 at hres
  refine am_lconst cx (v := (1 : Int64)) dX12_determinant_0 (by decide) ?_
  refine am_lstore_n cx (lv' := [(0, .inr (.inr (.inl r0))), (1, .inl x1), (2, .inr (.inl (1 : Int64)))]) dX12_determinant_1 (Nat.le_of_ble_eq_true rfl) rfl ?_
  refine am_lconst cx (v := (1 : Int64)) dX12_determinant_2 (by decide) ?_
  refine am_lstore cx (lv' := [(0, .inr (.inr (.inl r0))), (1, .inl x1), (2, .inr (.inl (1 : Int64))), (4, .inr (.inl (1 : Int64)))]) dX12_determinant_3 (Nat.le_of_ble_eq_true rfl) rfl ?_
  refine am_iconst cx (v := (0 : Int32)) dX12_determinant_5 (by decide) ?_
  refine am_istore cx (lv' := [(0, .inr (.inr (.inl r0))), (1, .inl x1), (2, .inr (.inl (1 : Int64))), (4, .inr (.inl (1 : Int64))), (6, .inl (0 : Int32))]) dX12_determinant_6 (Nat.le_of_ble_eq_true rfl) rfl ?_
  exact sn12_determinant_b8 cx  N _ _ _ _ _ _ hres
set_option maxRecDepth 20000 in
theorem mt12_determinant {l : Launch} {v : Int64} {M M' : am_Mem} {N : Nat} {r0 : Nat} {x1 : Int32} (h : fn12_determinant N M r0 x1 = some (v, M')) : am_Met l yX12_determinant cX12_determinant 11 (some .long) rm12_determinant 0 0 [.inr (.inr (.inl r0)), .inl x1] M (some (.inr (.inl v))) M' := am_mk (by decide) (Nat.le_of_ble_eq_true rfl) (fun G cx => (sn12_determinant_b0 cx h))
