-- SquareCuts$Page.putNumber
def fn7_putNumber_b35 (N : Nat) (k3 : Nat → Int32 → Int32 → am_Mem → Option (Unit × am_Mem)) (r0 : Nat) (x1 : Int32) (x2 : Int32) (M : am_Mem) : Option (Unit × am_Mem) :=
  k3 r0 x1 x2 M
def fn7_putNumber_b30 (N : Nat) (k3 : Nat → Int32 → Int32 → am_Mem → Option (Unit × am_Mem)) (r0 : Nat) (x1 : Int32) (x2 : Int32) (M : am_Mem) : Option (Unit × am_Mem) :=
  fn7_putNumber_b35 N k3 r0 x1 (x2 / (10 : Int32)) M
def fn7_putNumber_b17 (N : Nat) (k3 : Nat → Int32 → Int32 → am_Mem → Option (Unit × am_Mem)) (r0 : Nat) (x1 : Int32) (x2 : Int32) (M : am_Mem) : Option (Unit × am_Mem) :=
  am_ck (decide (¬ x2 = 0)) (am_ck (am_k M r0 7) (am_bd (fn7_put M r0 ((48 : Int32) + ((x1 / x2) - (x1 / x2) / (10 : Int32) * (10 : Int32)))) (fun v3 M4 => fn7_putNumber_b30 N k3 r0 x1 x2 M4)))
def fn7_putNumber_b3B (N : Nat) (k3 : Nat → Int32 → Int32 → am_Mem → Option (Unit × am_Mem)) (r0 : Nat) (x1 : Int32) (x2 : Int32) (M : am_Mem) : Option (Unit × am_Mem) :=
  if x2 ≤ 0 then some ((), M) else if x2 ≤ x1 then fn7_putNumber_b17 N k3 r0 x1 x2 M else if x2 = (1 : Int32) then fn7_putNumber_b17 N k3 r0 x1 x2 M else fn7_putNumber_b30 N k3 r0 x1 x2 M
def fn7_putNumber_b3 (N : Nat)  : Nat → Nat → Int32 → Int32 → am_Mem → Option (Unit × am_Mem)
  | 0 => fun _ _ _ _ => none
  | i + 1 => fn7_putNumber_b3B N (fn7_putNumber_b3 N  i)
def fn7_putNumber_b0 (N : Nat)  (r0 : Nat) (x1 : Int32) (M : am_Mem) : Option (Unit × am_Mem) :=
  fn7_putNumber_b3 N  N r0 x1 (1000000000 : Int32) M
def fn7_putNumber (N : Nat) (M : am_Mem) (r0 : Nat) (x1 : Int32) : Option (Unit × am_Mem) := fn7_putNumber_b0 N r0 x1 M
def rm7_putNumber : Room := { frames := 1, cells := 0, slots := 0, locals := 21 }
set_option maxRecDepth 20000 in
theorem sn7_putNumber_b35 {l : Launch} {G : am_G} {M' : am_Mem} {N : Nat} {k3 : Nat → Int32 → Int32 → am_Mem → Option (Unit × am_Mem)} (cx : am_Ctx l rm7_putNumber yX7_putNumber cX7_putNumber 3 none none M' 0 0 G) (hk3 : ∀ (r0 : Nat) (x1 : Int32) (x2 : Int32) (M : am_Mem), k3 r0 x1 x2 M = some ((), M') → G 3 [(0, .inr (.inr (.inl r0))), (1, .inl x1), (2, .inl x2)] [] M 0 0) {r0 : Nat} {x1 : Int32} {x2 : Int32} {M : am_Mem} (hres : fn7_putNumber_b35 N k3 r0 x1 x2 M = some ((), M')) : G 35 [(0, .inr (.inr (.inl r0))), (1, .inl x1), (2, .inl x2)] [] M 0 0 := by
  unfold fn7_putNumber_b35 at hres
  refine am_goto cx (tgt := 3) dX7_putNumber_35 (by decide) ?_
  exact hk3 _ _ _ _ hres
set_option maxRecDepth 20000 in
theorem sn7_putNumber_b30 {l : Launch} {G : am_G} {M' : am_Mem} {N : Nat} {k3 : Nat → Int32 → Int32 → am_Mem → Option (Unit × am_Mem)} (cx : am_Ctx l rm7_putNumber yX7_putNumber cX7_putNumber 3 none none M' 0 0 G) (hk3 : ∀ (r0 : Nat) (x1 : Int32) (x2 : Int32) (M : am_Mem), k3 r0 x1 x2 M = some ((), M') → G 3 [(0, .inr (.inr (.inl r0))), (1, .inl x1), (2, .inl x2)] [] M 0 0) {r0 : Nat} {x1 : Int32} {x2 : Int32} {M : am_Mem} (hres : fn7_putNumber_b30 N k3 r0 x1 x2 M = some ((), M')) : G 30 [(0, .inr (.inr (.inl r0))), (1, .inl x1), (2, .inl x2)] [] M 0 0 := by
  unfold fn7_putNumber_b30 at hres
  refine am_iload_n cx 2 dX7_putNumber_30 rfl ?_
  refine am_bipush cx (v := (10 : Int32)) dX7_putNumber_31 (by decide) ?_
  refine am_idiv cx dX7_putNumber_33 (by decide) ?_
  refine am_istore_n cx (lv' := [(0, .inr (.inr (.inl r0))), (1, .inl x1), (2, .inl (x2 / (10 : Int32)))]) dX7_putNumber_34 (Nat.le_of_ble_eq_true rfl) rfl ?_
  exact sn7_putNumber_b35 cx hk3 hres
set_option maxRecDepth 20000 in
theorem sn7_putNumber_b17 {l : Launch} {G : am_G} {M' : am_Mem} {N : Nat} {k3 : Nat → Int32 → Int32 → am_Mem → Option (Unit × am_Mem)} (cx : am_Ctx l rm7_putNumber yX7_putNumber cX7_putNumber 3 none none M' 0 0 G) (hk3 : ∀ (r0 : Nat) (x1 : Int32) (x2 : Int32) (M : am_Mem), k3 r0 x1 x2 M = some ((), M') → G 3 [(0, .inr (.inr (.inl r0))), (1, .inl x1), (2, .inl x2)] [] M 0 0) {r0 : Nat} {x1 : Int32} {x2 : Int32} {M : am_Mem} (hres : fn7_putNumber_b17 N k3 r0 x1 x2 M = some ((), M')) : G 17 [(0, .inr (.inr (.inl r0))), (1, .inl x1), (2, .inl x2)] [] M 0 0 := by
  unfold fn7_putNumber_b17 at hres
  refine am_aload_n cx 0 dX7_putNumber_17 rfl ?_
  refine am_bipush cx (v := (48 : Int32)) dX7_putNumber_18 (by decide) ?_
  refine am_iload_n cx 1 dX7_putNumber_20 rfl ?_
  refine am_iload_n cx 2 dX7_putNumber_21 rfl ?_
  obtain ⟨q1, hres⟩ := am_ck_some hres
  refine am_idiv cx dX7_putNumber_22 (of_decide_eq_true q1) ?_
  refine am_bipush cx (v := (10 : Int32)) dX7_putNumber_23 (by decide) ?_
  refine am_irem cx dX7_putNumber_25 (by decide) ?_
  refine am_iadd cx dX7_putNumber_26 ?_
  obtain ⟨q2, hres⟩ := am_ck_some hres
  obtain ⟨v3, M4, q5, hres⟩ := am_bd_some hres
  refine am_callV0 cx [.inl ((48 : Int32) + ((x1 / x2) - (x1 / x2) / (10 : Int32) * (10 : Int32)))] dX7_putNumber_27 cvX7_28 (mt7_put q5) (am_ke q2) ⟨rfl, rfl, Nat.le_of_ble_eq_true rfl, Nat.le_of_ble_eq_true rfl⟩ rfl (Nat.le_of_ble_eq_true rfl) ⟨Nat.le_of_ble_eq_true rfl, Nat.le_of_ble_eq_true rfl⟩ ?_
  exact sn7_putNumber_b30 cx hk3 hres
set_option maxRecDepth 20000 in
theorem sn7_putNumber_b3B {l : Launch} {G : am_G} {M' : am_Mem} {N : Nat} {k3 : Nat → Int32 → Int32 → am_Mem → Option (Unit × am_Mem)} (cx : am_Ctx l rm7_putNumber yX7_putNumber cX7_putNumber 3 none none M' 0 0 G) (hk3 : ∀ (r0 : Nat) (x1 : Int32) (x2 : Int32) (M : am_Mem), k3 r0 x1 x2 M = some ((), M') → G 3 [(0, .inr (.inr (.inl r0))), (1, .inl x1), (2, .inl x2)] [] M 0 0) {r0 : Nat} {x1 : Int32} {x2 : Int32} {M : am_Mem} (hres : fn7_putNumber_b3B N k3 r0 x1 x2 M = some ((), M')) : G 3 [(0, .inr (.inr (.inl r0))), (1, .inl x1), (2, .inl x2)] [] M 0 0 := by
  unfold fn7_putNumber_b3B at hres
  refine am_iload_n cx 2 dX7_putNumber_3 rfl ?_
  refine am_if_le cx (tgt := 38) dX7_putNumber_4 (by decide) (fun h => ?_) (fun h => ?_)
  · have hres := am_ifp h hres
    obtain ⟨-, rfl⟩ := am_fin hres
    exact am_vret cx dX7_putNumber_38
  · have hres := am_ifn h hres
    refine am_iload_n cx 2 dX7_putNumber_7 rfl ?_
    refine am_iload_n cx 1 dX7_putNumber_8 rfl ?_
    refine am_icmp_le cx (tgt := 17) dX7_putNumber_9 (by decide) (fun h => ?_) (fun h => ?_)
    · have hres := am_ifp h hres
      exact sn7_putNumber_b17 cx hk3 hres
    · have hres := am_ifn h hres
      refine am_iload_n cx 2 dX7_putNumber_12 rfl ?_
      refine am_iconst cx (v := (1 : Int32)) dX7_putNumber_13 (by decide) ?_
      refine am_icmp_ne cx (tgt := 30) dX7_putNumber_14 (by decide) (fun h => ?_) (fun h => ?_)
      · have hres := am_ifn h hres
        exact sn7_putNumber_b30 cx hk3 hres
      · have hres := am_ifp h hres
        exact sn7_putNumber_b17 cx hk3 hres
set_option maxRecDepth 20000 in
theorem sn7_putNumber_b3 {l : Launch} {G : am_G} {M' : am_Mem} {N : Nat}  (cx : am_Ctx l rm7_putNumber yX7_putNumber cX7_putNumber 3 none none M' 0 0 G)  (i : Nat) : ∀ (r0 : Nat) (x1 : Int32) (x2 : Int32) (M : am_Mem), fn7_putNumber_b3 N  i r0 x1 x2 M = some ((), M') → G 3 [(0, .inr (.inr (.inl r0))), (1, .inl x1), (2, .inl x2)] [] M 0 0 := by
  induction i with
  | zero => intro r0 x1 x2 M hres; exact am_no hres
  | succ i ih => intro r0 x1 x2 M hres; exact sn7_putNumber_b3B cx ih hres
set_option maxRecDepth 20000 in
theorem sn7_putNumber_b0 {l : Launch} {G : am_G} {M' : am_Mem} {N : Nat}  (cx : am_Ctx l rm7_putNumber yX7_putNumber cX7_putNumber 3 none none M' 0 0 G)  {r0 : Nat} {x1 : Int32} {M : am_Mem} (hres : fn7_putNumber_b0 N  r0 x1 M = some ((), M')) : G 0 [(0, .inr (.inr (.inl r0))), (1, .inl x1)] [] M 0 0 := by
  unfold fn7_putNumber_b0 at hres
  refine am_ldc cx dX7_putNumber_0 aw_3_218 ?_
  refine am_istore_n cx (lv' := [(0, .inr (.inr (.inl r0))), (1, .inl x1), (2, .inl (1000000000 : Int32))]) dX7_putNumber_2 (Nat.le_of_ble_eq_true rfl) rfl ?_
  exact sn7_putNumber_b3 cx  N _ _ _ _ hres
set_option maxRecDepth 20000 in
theorem mt7_putNumber {l : Launch} {M M' : am_Mem} {N : Nat} {r0 : Nat} {x1 : Int32} (h : fn7_putNumber N M r0 x1 = some ((), M')) : am_Met l yX7_putNumber cX7_putNumber 3 none rm7_putNumber 0 0 [.inr (.inr (.inl r0)), .inl x1] M none M' := am_mk (by decide) (Nat.le_of_ble_eq_true rfl) (fun G cx => (sn7_putNumber_b0 cx h))
-- SquareCuts$Reader.nextToken
def fn8_nextToken_b311 (N : Nat)   (M : am_Mem) : Option (Unit × am_Mem) :=
  some ((), M)
def fn8_nextToken_b187 (N : Nat)  (c0 : Nat) (a1 : Int32) (M : am_Mem) : Option (Unit × am_Mem) :=
  am_ck (am_k M c0 8) (fn8_nextToken_b311 N   (am_wI M c0 3 a1))
def fn8_nextToken_b166 (N : Nat)  (r0 : Nat) (M : am_Mem) : Option (Unit × am_Mem) :=
  am_ck (am_k M r0 8) (if (6 : Int32) < ((am_I M r0 2) - (am_I M r0 4)) then fn8_nextToken_b187 N  r0 (6 : Int32) M else fn8_nextToken_b187 N  r0 (1 : Int32) M)
def fn8_nextToken_b104B (N : Nat) (k104 : Nat → am_Mem → Option (Unit × am_Mem)) (r0 : Nat) (M : am_Mem) : Option (Unit × am_Mem) :=
  am_ck (am_k M r0 8) (if (am_I M r0 1) ≤ (am_I M r0 2) then fn8_nextToken_b166 N  r0 M else am_ck (am_k M (am_R M r0 0) 13) (am_ck (am_in (am_I M r0 2) (am_L M (am_R M r0 0))) (am_bd (fn8_tokenBegunBy M (am_I M (am_R M r0 0) (am_I M r0 2).toNatClampNeg)) (fun v4 M5 => if v4 = (1 : Int32) then am_ck (am_k M5 r0 8) (am_ck (am_k M5 (am_R M5 r0 0) 13) (am_ck (am_in (am_I M5 r0 2) (am_L M5 (am_R M5 r0 0))) (k104 r0 (am_wI (am_wJ M5 r0 5 (((am_J M5 r0 5) <<< ((8 : Int32).toInt64 &&& 63)) + (am_I M5 (am_R M5 r0 0) (am_I M5 r0 2).toNatClampNeg).toInt64)) r0 2 ((am_I M5 r0 2) + (1 : Int32)))))) else fn8_nextToken_b166 N  r0 M5))))
def fn8_nextToken_b104 (N : Nat)  : Nat → Nat → am_Mem → Option (Unit × am_Mem)
  | 0 => fun _ _ => none
  | i + 1 => fn8_nextToken_b104B N (fn8_nextToken_b104 N  i)
def fn8_nextToken_b288 (N : Nat)  (c0 : Nat) (a1 : Int32) (M : am_Mem) : Option (Unit × am_Mem) :=
  am_ck (am_k M c0 8) (fn8_nextToken_b311 N   (am_wI M c0 3 a1))
def fn8_nextToken_b268 (N : Nat)  (r0 : Nat) (M : am_Mem) : Option (Unit × am_Mem) :=
  am_ck (am_k M r0 8) (if (4 : Int32) < ((am_I M r0 2) - (am_I M r0 4)) then fn8_nextToken_b288 N  r0 (6 : Int32) M else fn8_nextToken_b288 N  r0 (2 : Int32) M)
def fn8_nextToken_b201B (N : Nat) (k201 : Nat → am_Mem → Option (Unit × am_Mem)) (r0 : Nat) (M : am_Mem) : Option (Unit × am_Mem) :=
  am_ck (am_k M r0 8) (if (am_I M r0 1) ≤ (am_I M r0 2) then fn8_nextToken_b268 N  r0 M else am_ck (am_k M (am_R M r0 0) 13) (am_ck (am_in (am_I M r0 2) (am_L M (am_R M r0 0))) (am_bd (fn8_tokenBegunBy M (am_I M (am_R M r0 0) (am_I M r0 2).toNatClampNeg)) (fun v4 M5 => if v4 = (2 : Int32) then am_ck (am_k M5 r0 8) (am_ck (am_k M5 (am_R M5 r0 0) 13) (am_ck (am_in (am_I M5 r0 2) (am_L M5 (am_R M5 r0 0))) (k201 r0 (am_wI (am_wJ M5 r0 5 ((((10 : Int64) * (am_J M5 r0 5)) + (am_I M5 (am_R M5 r0 0) (am_I M5 r0 2).toNatClampNeg).toInt64) - (48 : Int64))) r0 2 ((am_I M5 r0 2) + (1 : Int32)))))) else fn8_nextToken_b268 N  r0 M5))))
def fn8_nextToken_b201 (N : Nat)  : Nat → Nat → am_Mem → Option (Unit × am_Mem)
  | 0 => fun _ _ => none
  | i + 1 => fn8_nextToken_b201B N (fn8_nextToken_b201 N  i)
def fn8_nextToken_b93 (N : Nat)  (c0 : Nat) (a1 : Int32) (r0 : Nat) (M : am_Mem) : Option (Unit × am_Mem) :=
  am_ck (am_k M c0 8) (am_ck (am_k M r0 8) (if (am_I (am_wI M c0 3 a1) r0 3) = (1 : Int32) then fn8_nextToken_b104 N  N r0 (am_wI M c0 3 a1) else if (am_I (am_wI M c0 3 a1) r0 3) = (2 : Int32) then fn8_nextToken_b201 N  N r0 (am_wI M c0 3 a1) else if (am_I (am_wI M c0 3 a1) r0 3) = 0 then fn8_nextToken_b311 N   (am_wI M c0 3 a1) else fn8_nextToken_b311 N   (am_wI (am_wI M c0 3 a1) r0 2 ((am_I (am_wI M c0 3 a1) r0 2) + (1 : Int32)))))
def fn8_nextToken_b52 (N : Nat)  (r0 : Nat) (M : am_Mem) : Option (Unit × am_Mem) :=
  am_ck (am_k M r0 8) (if (am_I (am_wI M r0 4 (am_I M r0 2)) r0 1) ≤ (am_I (am_wI M r0 4 (am_I M r0 2)) r0 2) then fn8_nextToken_b93 N  r0 (0 : Int32) r0 (am_wJ (am_wI M r0 4 (am_I M r0 2)) r0 5 (0 : Int64)) else am_ck (am_k M (am_R M r0 0) 13) (am_ck (am_in (am_I (am_wI M r0 4 (am_I M r0 2)) r0 2) (am_L M (am_R M r0 0))) (am_bd (fn8_tokenBegunBy (am_wJ (am_wI M r0 4 (am_I M r0 2)) r0 5 (0 : Int64)) (am_I (am_wI M r0 4 (am_I M r0 2)) (am_R M r0 0) (am_I (am_wI M r0 4 (am_I M r0 2)) r0 2).toNatClampNeg)) (fun v4 M5 => fn8_nextToken_b93 N  r0 v4 r0 M5))))
def fn8_nextToken_b39 (N : Nat) (k0 : Nat → am_Mem → Option (Unit × am_Mem)) (r0 : Nat) (M : am_Mem) : Option (Unit × am_Mem) :=
  am_ck (am_k M r0 8) (k0 r0 (am_wI M r0 2 ((am_I M r0 2) + (1 : Int32))))
def fn8_nextToken_b0B (N : Nat) (k0 : Nat → am_Mem → Option (Unit × am_Mem)) (r0 : Nat) (M : am_Mem) : Option (Unit × am_Mem) :=
  am_ck (am_k M r0 8) (if (am_I M r0 1) ≤ (am_I M r0 2) then fn8_nextToken_b52 N  r0 M else am_ck (am_k M (am_R M r0 0) 13) (am_ck (am_in (am_I M r0 2) (am_L M (am_R M r0 0))) (if (am_I M (am_R M r0 0) (am_I M r0 2).toNatClampNeg) = (32 : Int32) then fn8_nextToken_b39 N k0 r0 M else am_ck (am_in (am_I M r0 2) (am_L M (am_R M r0 0))) (if (am_I M (am_R M r0 0) (am_I M r0 2).toNatClampNeg) = (10 : Int32) then fn8_nextToken_b39 N k0 r0 M else fn8_nextToken_b52 N  r0 M))))
def fn8_nextToken_b0 (N : Nat)  : Nat → Nat → am_Mem → Option (Unit × am_Mem)
  | 0 => fun _ _ => none
  | i + 1 => fn8_nextToken_b0B N (fn8_nextToken_b0 N  i)
def fn8_nextToken (N : Nat) (M : am_Mem) (r0 : Nat) : Option (Unit × am_Mem) := fn8_nextToken_b0 N N r0 M
def rm8_nextToken : Room := { frames := 1, cells := 0, slots := 0, locals := 20 }
set_option maxRecDepth 20000 in
theorem sn8_nextToken_b311 {l : Launch} {G : am_G} {M' : am_Mem} {N : Nat}  (cx : am_Ctx l rm8_nextToken yX8_nextToken cX8_nextToken 1 none none M' 0 0 G)   {M : am_Mem} (hres : fn8_nextToken_b311 N   M = some ((), M')) : G 311 [] [] M 0 0 := by
  unfold fn8_nextToken_b311 at hres
  obtain ⟨-, rfl⟩ := am_fin hres
  exact am_vret cx dX8_nextToken_311
set_option maxRecDepth 20000 in
theorem sn8_nextToken_b187 {l : Launch} {G : am_G} {M' : am_Mem} {N : Nat}  (cx : am_Ctx l rm8_nextToken yX8_nextToken cX8_nextToken 1 none none M' 0 0 G)  {c0 : Nat} {a1 : Int32} {M : am_Mem} (hres : fn8_nextToken_b187 N  c0 a1 M = some ((), M')) : G 187 [] [.inl a1, .inr (.inr (.inl c0))] M 0 0 := by
  unfold fn8_nextToken_b187 at hres
  obtain ⟨q1, hres⟩ := am_ck_some hres
  refine am_putI cx dX8_nextToken_187 fpX8_57 (fun h => by cases h) (am_ke q1) ?_
  refine am_goto cx (tgt := 311) dX8_nextToken_190 (by decide) ?_
  exact sn8_nextToken_b311 cx  hres
set_option maxRecDepth 20000 in
theorem sn8_nextToken_b166 {l : Launch} {G : am_G} {M' : am_Mem} {N : Nat}  (cx : am_Ctx l rm8_nextToken yX8_nextToken cX8_nextToken 1 none none M' 0 0 G)  {r0 : Nat} {M : am_Mem} (hres : fn8_nextToken_b166 N  r0 M = some ((), M')) : G 166 [(0, .inr (.inr (.inl r0)))] [] M 0 0 := by
  unfold fn8_nextToken_b166 at hres
  refine am_aload_n cx 0 dX8_nextToken_166 rfl ?_
  refine am_aload_n cx 0 dX8_nextToken_167 rfl ?_
  obtain ⟨q1, hres⟩ := am_ck_some hres
  refine am_getI cx dX8_nextToken_168 flX8_48 (am_ke q1) ?_
  refine am_aload_n cx 0 dX8_nextToken_171 rfl ?_
  refine am_getI cx dX8_nextToken_172 flX8_104 (am_ke q1) ?_
  refine am_isub cx dX8_nextToken_175 ?_
  refine am_bipush cx (v := (6 : Int32)) dX8_nextToken_176 (by decide) ?_
  refine am_icmp_gt cx (tgt := 185) dX8_nextToken_178 (by decide) (fun h => ?_) (fun h => ?_)
  · have hres := am_ifp h hres
    refine am_bipush cx (v := (6 : Int32)) dX8_nextToken_185 (by decide) ?_
    refine am_sub cx [] rfl ?_
    exact sn8_nextToken_b187 cx  hres
  · have hres := am_ifn h hres
    refine am_iconst cx (v := (1 : Int32)) dX8_nextToken_181 (by decide) ?_
    refine am_goto cx (tgt := 187) dX8_nextToken_182 (by decide) ?_
    refine am_sub cx [] rfl ?_
    exact sn8_nextToken_b187 cx  hres
set_option maxRecDepth 20000 in
theorem sn8_nextToken_b104B {l : Launch} {G : am_G} {M' : am_Mem} {N : Nat} {k104 : Nat → am_Mem → Option (Unit × am_Mem)} (cx : am_Ctx l rm8_nextToken yX8_nextToken cX8_nextToken 1 none none M' 0 0 G) (hk104 : ∀ (r0 : Nat) (M : am_Mem), k104 r0 M = some ((), M') → G 104 [(0, .inr (.inr (.inl r0)))] [] M 0 0) {r0 : Nat} {M : am_Mem} (hres : fn8_nextToken_b104B N k104 r0 M = some ((), M')) : G 104 [(0, .inr (.inr (.inl r0)))] [] M 0 0 := by
  unfold fn8_nextToken_b104B at hres
  refine am_aload_n cx 0 dX8_nextToken_104 rfl ?_
  obtain ⟨q1, hres⟩ := am_ck_some hres
  refine am_getI cx dX8_nextToken_105 flX8_48 (am_ke q1) ?_
  refine am_aload_n cx 0 dX8_nextToken_108 rfl ?_
  refine am_getI cx dX8_nextToken_109 flX8_45 (am_ke q1) ?_
  refine am_icmp_ge cx (tgt := 166) dX8_nextToken_112 (by decide) (fun h => ?_) (fun h => ?_)
  · have hres := am_ifp h hres
    exact sn8_nextToken_b166 cx  hres
  · have hres := am_ifn h hres
    refine am_aload_n cx 0 dX8_nextToken_115 rfl ?_
    refine am_getR cx dX8_nextToken_116 flX8_9 (am_ke q1) ?_
    refine am_aload_n cx 0 dX8_nextToken_119 rfl ?_
    refine am_getI cx dX8_nextToken_120 flX8_48 (am_ke q1) ?_
    obtain ⟨q2, hres⟩ := am_ck_some hres
    obtain ⟨q3, hres⟩ := am_ck_some hres
    refine am_bald cx dX8_nextToken_123 (am_ke q2) q3 ?_
    obtain ⟨v4, M5, q6, hres⟩ := am_bd_some hres
    refine am_callS1 cx [.inl (am_I M (am_R M r0 0) (am_I M r0 2).toNatClampNeg)] dX8_nextToken_124 csX8_107 (mt8_tokenBegunBy q6)  ⟨rfl, rfl, Nat.le_of_ble_eq_true rfl, Nat.le_of_ble_eq_true rfl⟩ rfl (Nat.le_of_ble_eq_true rfl) ⟨Nat.le_of_ble_eq_true rfl, Nat.le_of_ble_eq_true rfl⟩ ?_
    refine am_iconst cx (v := (1 : Int32)) dX8_nextToken_127 (by decide) ?_
    refine am_icmp_ne cx (tgt := 166) dX8_nextToken_128 (by decide) (fun h => ?_) (fun h => ?_)
    · have hres := am_ifn h hres
      exact sn8_nextToken_b166 cx  hres
    · have hres := am_ifp h hres
      refine am_aload_n cx 0 dX8_nextToken_131 rfl ?_
      refine am_aload_n cx 0 dX8_nextToken_132 rfl ?_
      obtain ⟨q7, hres⟩ := am_ck_some hres
      refine am_getJ cx dX8_nextToken_133 flX8_80 (am_ke q7) ?_
      refine am_bipush cx (v := (8 : Int32)) dX8_nextToken_136 (by decide) ?_
      refine am_lshl cx dX8_nextToken_138 ?_
      refine am_aload_n cx 0 dX8_nextToken_139 rfl ?_
      refine am_getR cx dX8_nextToken_140 flX8_9 (am_ke q7) ?_
      refine am_aload_n cx 0 dX8_nextToken_143 rfl ?_
      refine am_getI cx dX8_nextToken_144 flX8_48 (am_ke q7) ?_
      obtain ⟨q8, hres⟩ := am_ck_some hres
      obtain ⟨q9, hres⟩ := am_ck_some hres
      refine am_bald cx dX8_nextToken_147 (am_ke q8) q9 ?_
      refine am_i2l cx dX8_nextToken_148 ?_
      refine am_ladd cx dX8_nextToken_149 ?_
      refine am_putJ cx dX8_nextToken_150 fpX8_80 (fun h => by cases h) (am_ke q7) ?_
      refine am_aload_n cx 0 dX8_nextToken_153 rfl ?_
      refine am_dup cx dX8_nextToken_154 rfl ?_
      refine am_getI cx dX8_nextToken_155 flX8_48 (am_ke q7) ?_
      refine am_iconst cx (v := (1 : Int32)) dX8_nextToken_158 (by decide) ?_
      refine am_iadd cx dX8_nextToken_159 ?_
      refine am_putI cx dX8_nextToken_160 fpX8_48 (fun h => by cases h) (am_ke q7) ?_
      refine am_goto cx (tgt := 104) dX8_nextToken_163 (by decide) ?_
      exact hk104 _ _ hres
set_option maxRecDepth 20000 in
theorem sn8_nextToken_b104 {l : Launch} {G : am_G} {M' : am_Mem} {N : Nat}  (cx : am_Ctx l rm8_nextToken yX8_nextToken cX8_nextToken 1 none none M' 0 0 G)  (i : Nat) : ∀ (r0 : Nat) (M : am_Mem), fn8_nextToken_b104 N  i r0 M = some ((), M') → G 104 [(0, .inr (.inr (.inl r0)))] [] M 0 0 := by
  induction i with
  | zero => intro r0 M hres; exact am_no hres
  | succ i ih => intro r0 M hres; exact sn8_nextToken_b104B cx ih hres
set_option maxRecDepth 20000 in
theorem sn8_nextToken_b288 {l : Launch} {G : am_G} {M' : am_Mem} {N : Nat}  (cx : am_Ctx l rm8_nextToken yX8_nextToken cX8_nextToken 1 none none M' 0 0 G)  {c0 : Nat} {a1 : Int32} {M : am_Mem} (hres : fn8_nextToken_b288 N  c0 a1 M = some ((), M')) : G 288 [] [.inl a1, .inr (.inr (.inl c0))] M 0 0 := by
  unfold fn8_nextToken_b288 at hres
  obtain ⟨q1, hres⟩ := am_ck_some hres
  refine am_putI cx dX8_nextToken_288 fpX8_57 (fun h => by cases h) (am_ke q1) ?_
  refine am_goto cx (tgt := 311) dX8_nextToken_291 (by decide) ?_
  exact sn8_nextToken_b311 cx  hres
set_option maxRecDepth 20000 in
theorem sn8_nextToken_b268 {l : Launch} {G : am_G} {M' : am_Mem} {N : Nat}  (cx : am_Ctx l rm8_nextToken yX8_nextToken cX8_nextToken 1 none none M' 0 0 G)  {r0 : Nat} {M : am_Mem} (hres : fn8_nextToken_b268 N  r0 M = some ((), M')) : G 268 [(0, .inr (.inr (.inl r0)))] [] M 0 0 := by
  unfold fn8_nextToken_b268 at hres
  refine am_aload_n cx 0 dX8_nextToken_268 rfl ?_
  refine am_aload_n cx 0 dX8_nextToken_269 rfl ?_
  obtain ⟨q1, hres⟩ := am_ck_some hres
  refine am_getI cx dX8_nextToken_270 flX8_48 (am_ke q1) ?_
  refine am_aload_n cx 0 dX8_nextToken_273 rfl ?_
  refine am_getI cx dX8_nextToken_274 flX8_104 (am_ke q1) ?_
  refine am_isub cx dX8_nextToken_277 ?_
  refine am_iconst cx (v := (4 : Int32)) dX8_nextToken_278 (by decide) ?_
  refine am_icmp_gt cx (tgt := 286) dX8_nextToken_279 (by decide) (fun h => ?_) (fun h => ?_)
  · have hres := am_ifp h hres
    refine am_bipush cx (v := (6 : Int32)) dX8_nextToken_286 (by decide) ?_
    refine am_sub cx [] rfl ?_
    exact sn8_nextToken_b288 cx  hres
  · have hres := am_ifn h hres
    refine am_iconst cx (v := (2 : Int32)) dX8_nextToken_282 (by decide) ?_
    refine am_goto cx (tgt := 288) dX8_nextToken_283 (by decide) ?_
    refine am_sub cx [] rfl ?_
    exact sn8_nextToken_b288 cx  hres
set_option maxRecDepth 20000 in
theorem sn8_nextToken_b201B {l : Launch} {G : am_G} {M' : am_Mem} {N : Nat} {k201 : Nat → am_Mem → Option (Unit × am_Mem)} (cx : am_Ctx l rm8_nextToken yX8_nextToken cX8_nextToken 1 none none M' 0 0 G) (hk201 : ∀ (r0 : Nat) (M : am_Mem), k201 r0 M = some ((), M') → G 201 [(0, .inr (.inr (.inl r0)))] [] M 0 0) {r0 : Nat} {M : am_Mem} (hres : fn8_nextToken_b201B N k201 r0 M = some ((), M')) : G 201 [(0, .inr (.inr (.inl r0)))] [] M 0 0 := by
  unfold fn8_nextToken_b201B at hres
  refine am_aload_n cx 0 dX8_nextToken_201 rfl ?_
  obtain ⟨q1, hres⟩ := am_ck_some hres
  refine am_getI cx dX8_nextToken_202 flX8_48 (am_ke q1) ?_
  refine am_aload_n cx 0 dX8_nextToken_205 rfl ?_
  refine am_getI cx dX8_nextToken_206 flX8_45 (am_ke q1) ?_
  refine am_icmp_ge cx (tgt := 268) dX8_nextToken_209 (by decide) (fun h => ?_) (fun h => ?_)
  · have hres := am_ifp h hres
    exact sn8_nextToken_b268 cx  hres
  · have hres := am_ifn h hres
    refine am_aload_n cx 0 dX8_nextToken_212 rfl ?_
    refine am_getR cx dX8_nextToken_213 flX8_9 (am_ke q1) ?_
    refine am_aload_n cx 0 dX8_nextToken_216 rfl ?_
    refine am_getI cx dX8_nextToken_217 flX8_48 (am_ke q1) ?_
    obtain ⟨q2, hres⟩ := am_ck_some hres
    obtain ⟨q3, hres⟩ := am_ck_some hres
    refine am_bald cx dX8_nextToken_220 (am_ke q2) q3 ?_
    obtain ⟨v4, M5, q6, hres⟩ := am_bd_some hres
    refine am_callS1 cx [.inl (am_I M (am_R M r0 0) (am_I M r0 2).toNatClampNeg)] dX8_nextToken_221 csX8_107 (mt8_tokenBegunBy q6)  ⟨rfl, rfl, Nat.le_of_ble_eq_true rfl, Nat.le_of_ble_eq_true rfl⟩ rfl (Nat.le_of_ble_eq_true rfl) ⟨Nat.le_of_ble_eq_true rfl, Nat.le_of_ble_eq_true rfl⟩ ?_
    refine am_iconst cx (v := (2 : Int32)) dX8_nextToken_224 (by decide) ?_
    refine am_icmp_ne cx (tgt := 268) dX8_nextToken_225 (by decide) (fun h => ?_) (fun h => ?_)
    · have hres := am_ifn h hres
      exact sn8_nextToken_b268 cx  hres
    · have hres := am_ifp h hres
      refine am_aload_n cx 0 dX8_nextToken_228 rfl ?_
      refine am_ldc2 cx dX8_nextToken_229 aw_2_92 ?_
      refine am_aload_n cx 0 dX8_nextToken_232 rfl ?_
      obtain ⟨q7, hres⟩ := am_ck_some hres
      refine am_getJ cx dX8_nextToken_233 flX8_80 (am_ke q7) ?_
      refine am_lmul cx dX8_nextToken_236 ?_
      refine am_aload_n cx 0 dX8_nextToken_237 rfl ?_
      refine am_getR cx dX8_nextToken_238 flX8_9 (am_ke q7) ?_
      refine am_aload_n cx 0 dX8_nextToken_241 rfl ?_
      refine am_getI cx dX8_nextToken_242 flX8_48 (am_ke q7) ?_
      obtain ⟨q8, hres⟩ := am_ck_some hres
      obtain ⟨q9, hres⟩ := am_ck_some hres
      refine am_bald cx dX8_nextToken_245 (am_ke q8) q9 ?_
      refine am_i2l cx dX8_nextToken_246 ?_
      refine am_ladd cx dX8_nextToken_247 ?_
      refine am_ldc2 cx dX8_nextToken_248 aw_2_93 ?_
      refine am_lsub cx dX8_nextToken_251 ?_
      refine am_putJ cx dX8_nextToken_252 fpX8_80 (fun h => by cases h) (am_ke q7) ?_
      refine am_aload_n cx 0 dX8_nextToken_255 rfl ?_
      refine am_dup cx dX8_nextToken_256 rfl ?_
      refine am_getI cx dX8_nextToken_257 flX8_48 (am_ke q7) ?_
      refine am_iconst cx (v := (1 : Int32)) dX8_nextToken_260 (by decide) ?_
      refine am_iadd cx dX8_nextToken_261 ?_
      refine am_putI cx dX8_nextToken_262 fpX8_48 (fun h => by cases h) (am_ke q7) ?_
      refine am_goto cx (tgt := 201) dX8_nextToken_265 (by decide) ?_
      exact hk201 _ _ hres
set_option maxRecDepth 20000 in
theorem sn8_nextToken_b201 {l : Launch} {G : am_G} {M' : am_Mem} {N : Nat}  (cx : am_Ctx l rm8_nextToken yX8_nextToken cX8_nextToken 1 none none M' 0 0 G)  (i : Nat) : ∀ (r0 : Nat) (M : am_Mem), fn8_nextToken_b201 N  i r0 M = some ((), M') → G 201 [(0, .inr (.inr (.inl r0)))] [] M 0 0 := by
  induction i with
  | zero => intro r0 M hres; exact am_no hres
  | succ i ih => intro r0 M hres; exact sn8_nextToken_b201B cx ih hres
set_option maxRecDepth 20000 in
theorem sn8_nextToken_b93 {l : Launch} {G : am_G} {M' : am_Mem} {N : Nat}  (cx : am_Ctx l rm8_nextToken yX8_nextToken cX8_nextToken 1 none none M' 0 0 G)  {c0 : Nat} {a1 : Int32} {r0 : Nat} {M : am_Mem} (hres : fn8_nextToken_b93 N  c0 a1 r0 M = some ((), M')) : G 93 [(0, .inr (.inr (.inl r0)))] [.inl a1, .inr (.inr (.inl c0))] M 0 0 := by
  unfold fn8_nextToken_b93 at hres
  obtain ⟨q1, hres⟩ := am_ck_some hres
  refine am_putI cx dX8_nextToken_93 fpX8_57 (fun h => by cases h) (am_ke q1) ?_
  refine am_aload_n cx 0 dX8_nextToken_96 rfl ?_
  obtain ⟨q2, hres⟩ := am_ck_some hres
  refine am_getI cx dX8_nextToken_97 flX8_57 (am_ke q2) ?_
  refine am_iconst cx (v := (1 : Int32)) dX8_nextToken_100 (by decide) ?_
  refine am_icmp_ne cx (tgt := 193) dX8_nextToken_101 (by decide) (fun h => ?_) (fun h => ?_)
  · have hres := am_ifn h hres
    refine am_aload_n cx 0 dX8_nextToken_193 rfl ?_
    refine am_getI cx dX8_nextToken_194 flX8_57 (am_ke q2) ?_
    refine am_iconst cx (v := (2 : Int32)) dX8_nextToken_197 (by decide) ?_
    refine am_icmp_ne cx (tgt := 294) dX8_nextToken_198 (by decide) (fun h => ?_) (fun h => ?_)
    · have hres := am_ifn h hres
      refine am_aload_n cx 0 dX8_nextToken_294 rfl ?_
      refine am_getI cx dX8_nextToken_295 flX8_57 (am_ke q2) ?_
      refine am_if_eq cx (tgt := 311) dX8_nextToken_298 (by decide) (fun h => ?_) (fun h => ?_)
      · have hres := am_ifp h hres
        refine am_sub cx [] rfl ?_
        exact sn8_nextToken_b311 cx  hres
      · have hres := am_ifn h hres
        refine am_aload_n cx 0 dX8_nextToken_301 rfl ?_
        refine am_dup cx dX8_nextToken_302 rfl ?_
        refine am_getI cx dX8_nextToken_303 flX8_48 (am_ke q2) ?_
        refine am_iconst cx (v := (1 : Int32)) dX8_nextToken_306 (by decide) ?_
        refine am_iadd cx dX8_nextToken_307 ?_
        refine am_putI cx dX8_nextToken_308 fpX8_48 (fun h => by cases h) (am_ke q2) ?_
        refine am_sub cx [] rfl ?_
        exact sn8_nextToken_b311 cx  hres
    · have hres := am_ifp h hres
      exact sn8_nextToken_b201 cx  N _ _ hres
  · have hres := am_ifp h hres
    exact sn8_nextToken_b104 cx  N _ _ hres
set_option maxRecDepth 20000 in
theorem sn8_nextToken_b52 {l : Launch} {G : am_G} {M' : am_Mem} {N : Nat}  (cx : am_Ctx l rm8_nextToken yX8_nextToken cX8_nextToken 1 none none M' 0 0 G)  {r0 : Nat} {M : am_Mem} (hres : fn8_nextToken_b52 N  r0 M = some ((), M')) : G 52 [(0, .inr (.inr (.inl r0)))] [] M 0 0 := by
  unfold fn8_nextToken_b52 at hres
  refine am_aload_n cx 0 dX8_nextToken_52 rfl ?_
  refine am_aload_n cx 0 dX8_nextToken_53 rfl ?_
  obtain ⟨q1, hres⟩ := am_ck_some hres
  refine am_getI cx dX8_nextToken_54 flX8_48 (am_ke q1) ?_
  refine am_putI cx dX8_nextToken_57 fpX8_104 (fun h => by cases h) (am_ke q1) ?_
  refine am_aload_n cx 0 dX8_nextToken_60 rfl ?_
  refine am_lconst cx (v := (0 : Int64)) dX8_nextToken_61 (by decide) ?_
  refine am_putJ cx dX8_nextToken_62 fpX8_80 (fun h => by cases h) (am_ke q1) ?_
  refine am_aload_n cx 0 dX8_nextToken_65 rfl ?_
  refine am_aload_n cx 0 dX8_nextToken_66 rfl ?_
  refine am_getI cx dX8_nextToken_67 flX8_48 (am_ke q1) ?_
  refine am_aload_n cx 0 dX8_nextToken_70 rfl ?_
  refine am_getI cx dX8_nextToken_71 flX8_45 (am_ke q1) ?_
  refine am_icmp_ge cx (tgt := 92) dX8_nextToken_74 (by decide) (fun h => ?_) (fun h => ?_)
  · have hres := am_ifp h hres
    refine am_iconst cx (v := (0 : Int32)) dX8_nextToken_92 (by decide) ?_
    exact sn8_nextToken_b93 cx  hres
  · have hres := am_ifn h hres
    refine am_aload_n cx 0 dX8_nextToken_77 rfl ?_
    refine am_getR cx dX8_nextToken_78 flX8_9 (am_ke q1) ?_
    refine am_aload_n cx 0 dX8_nextToken_81 rfl ?_
    refine am_getI cx dX8_nextToken_82 flX8_48 (am_ke q1) ?_
    obtain ⟨q2, hres⟩ := am_ck_some hres
    obtain ⟨q3, hres⟩ := am_ck_some hres
    refine am_bald cx dX8_nextToken_85 (am_ke q2) q3 ?_
    obtain ⟨v4, M5, q6, hres⟩ := am_bd_some hres
    refine am_callS1 cx [.inl (am_I (am_wI M r0 4 (am_I M r0 2)) (am_R M r0 0) (am_I (am_wI M r0 4 (am_I M r0 2)) r0 2).toNatClampNeg)] dX8_nextToken_86 csX8_107 (mt8_tokenBegunBy q6)  ⟨rfl, rfl, Nat.le_of_ble_eq_true rfl, Nat.le_of_ble_eq_true rfl⟩ rfl (Nat.le_of_ble_eq_true rfl) ⟨Nat.le_of_ble_eq_true rfl, Nat.le_of_ble_eq_true rfl⟩ ?_
    refine am_goto cx (tgt := 93) dX8_nextToken_89 (by decide) ?_
    exact sn8_nextToken_b93 cx  hres
set_option maxRecDepth 20000 in
theorem sn8_nextToken_b39 {l : Launch} {G : am_G} {M' : am_Mem} {N : Nat} {k0 : Nat → am_Mem → Option (Unit × am_Mem)} (cx : am_Ctx l rm8_nextToken yX8_nextToken cX8_nextToken 1 none none M' 0 0 G) (hk0 : ∀ (r0 : Nat) (M : am_Mem), k0 r0 M = some ((), M') → G 0 [(0, .inr (.inr (.inl r0)))] [] M 0 0) {r0 : Nat} {M : am_Mem} (hres : fn8_nextToken_b39 N k0 r0 M = some ((), M')) : G 39 [(0, .inr (.inr (.inl r0)))] [] M 0 0 := by
  unfold fn8_nextToken_b39 at hres
  refine am_aload_n cx 0 dX8_nextToken_39 rfl ?_
  refine am_dup cx dX8_nextToken_40 rfl ?_
  obtain ⟨q1, hres⟩ := am_ck_some hres
  refine am_getI cx dX8_nextToken_41 flX8_48 (am_ke q1) ?_
  refine am_iconst cx (v := (1 : Int32)) dX8_nextToken_44 (by decide) ?_
  refine am_iadd cx dX8_nextToken_45 ?_
  refine am_putI cx dX8_nextToken_46 fpX8_48 (fun h => by cases h) (am_ke q1) ?_
  refine am_goto cx (tgt := 0) dX8_nextToken_49 (by decide) ?_
  exact hk0 _ _ hres
set_option maxRecDepth 20000 in
theorem sn8_nextToken_b0B {l : Launch} {G : am_G} {M' : am_Mem} {N : Nat} {k0 : Nat → am_Mem → Option (Unit × am_Mem)} (cx : am_Ctx l rm8_nextToken yX8_nextToken cX8_nextToken 1 none none M' 0 0 G) (hk0 : ∀ (r0 : Nat) (M : am_Mem), k0 r0 M = some ((), M') → G 0 [(0, .inr (.inr (.inl r0)))] [] M 0 0) {r0 : Nat} {M : am_Mem} (hres : fn8_nextToken_b0B N k0 r0 M = some ((), M')) : G 0 [(0, .inr (.inr (.inl r0)))] [] M 0 0 := by
  unfold fn8_nextToken_b0B at hres
  refine am_aload_n cx 0 dX8_nextToken_0 rfl ?_
  obtain ⟨q1, hres⟩ := am_ck_some hres
  refine am_getI cx dX8_nextToken_1 flX8_48 (am_ke q1) ?_
  refine am_aload_n cx 0 dX8_nextToken_4 rfl ?_
  refine am_getI cx dX8_nextToken_5 flX8_45 (am_ke q1) ?_
  refine am_icmp_ge cx (tgt := 52) dX8_nextToken_8 (by decide) (fun h => ?_) (fun h => ?_)
  · have hres := am_ifp h hres
    exact sn8_nextToken_b52 cx  hres
  · have hres := am_ifn h hres
    refine am_aload_n cx 0 dX8_nextToken_11 rfl ?_
    refine am_getR cx dX8_nextToken_12 flX8_9 (am_ke q1) ?_
    refine am_aload_n cx 0 dX8_nextToken_15 rfl ?_
    refine am_getI cx dX8_nextToken_16 flX8_48 (am_ke q1) ?_
    obtain ⟨q2, hres⟩ := am_ck_some hres
    obtain ⟨q3, hres⟩ := am_ck_some hres
    refine am_bald cx dX8_nextToken_19 (am_ke q2) q3 ?_
    refine am_bipush cx (v := (32 : Int32)) dX8_nextToken_20 (by decide) ?_
    refine am_icmp_eq cx (tgt := 39) dX8_nextToken_22 (by decide) (fun h => ?_) (fun h => ?_)
    · have hres := am_ifp h hres
      exact sn8_nextToken_b39 cx hk0 hres
    · have hres := am_ifn h hres
      refine am_aload_n cx 0 dX8_nextToken_25 rfl ?_
      refine am_getR cx dX8_nextToken_26 flX8_9 (am_ke q1) ?_
      refine am_aload_n cx 0 dX8_nextToken_29 rfl ?_
      refine am_getI cx dX8_nextToken_30 flX8_48 (am_ke q1) ?_
      obtain ⟨q4, hres⟩ := am_ck_some hres
      refine am_bald cx dX8_nextToken_33 (am_ke q2) q4 ?_
      refine am_bipush cx (v := (10 : Int32)) dX8_nextToken_34 (by decide) ?_
      refine am_icmp_ne cx (tgt := 52) dX8_nextToken_36 (by decide) (fun h => ?_) (fun h => ?_)
      · have hres := am_ifn h hres
        exact sn8_nextToken_b52 cx  hres
      · have hres := am_ifp h hres
        exact sn8_nextToken_b39 cx hk0 hres
set_option maxRecDepth 20000 in
theorem sn8_nextToken_b0 {l : Launch} {G : am_G} {M' : am_Mem} {N : Nat}  (cx : am_Ctx l rm8_nextToken yX8_nextToken cX8_nextToken 1 none none M' 0 0 G)  (i : Nat) : ∀ (r0 : Nat) (M : am_Mem), fn8_nextToken_b0 N  i r0 M = some ((), M') → G 0 [(0, .inr (.inr (.inl r0)))] [] M 0 0 := by
  induction i with
  | zero => intro r0 M hres; exact am_no hres
  | succ i ih => intro r0 M hres; exact sn8_nextToken_b0B cx ih hres
set_option maxRecDepth 20000 in
theorem mt8_nextToken {l : Launch} {M M' : am_Mem} {N : Nat} {r0 : Nat} (h : fn8_nextToken N M r0 = some ((), M')) : am_Met l yX8_nextToken cX8_nextToken 1 none rm8_nextToken 0 0 [.inr (.inr (.inl r0))] M none M' := am_mk (by decide) (Nat.le_of_ble_eq_true rfl) (fun G cx => (sn8_nextToken_b0 cx N _ _ h))
-- SquareCuts$Shelf.perfectOnes
def fn9_perfectOnes_b38 (N : Nat) (k4 : Nat → Int32 → Int32 → am_Mem → Option (Int32 × am_Mem)) (r0 : Nat) (x1 : Int32) (x2 : Int32) (M : am_Mem) : Option (Int32 × am_Mem) :=
  k4 r0 x1 (x2 + (1 : Int32)) M
def fn9_perfectOnes_b36 (N : Nat) (k4 : Nat → Int32 → Int32 → am_Mem → Option (Int32 × am_Mem)) (a0 : Int32) (a1 : Int32) (r0 : Nat) (x2 : Int32) (M : am_Mem) : Option (Int32 × am_Mem) :=
  fn9_perfectOnes_b38 N k4 r0 (a0 + a1) x2 M
def fn9_perfectOnes_b35 (N : Nat) (k4 : Nat → Int32 → Int32 → am_Mem → Option (Int32 × am_Mem)) (a0 : Int32) (r0 : Nat) (x2 : Int32) (M : am_Mem) : Option (Int32 × am_Mem) :=
  fn9_perfectOnes_b36 N k4 a0 (0 : Int32) r0 x2 M
def fn9_perfectOnes_b19 (N : Nat) (k4 : Nat → Int32 → Int32 → am_Mem → Option (Int32 × am_Mem)) (r0 : Nat) (x1 : Int32) (x2 : Int32) (r3 : Nat) (M : am_Mem) : Option (Int32 × am_Mem) :=
  if r3 = 0 then fn9_perfectOnes_b35 N k4 x1 r0 x2 M else am_ck (am_k M r3 10) (am_bd (fn10_isPerfect N M r3) (fun v2 M3 => if v2 = 0 then fn9_perfectOnes_b35 N k4 x1 r0 x2 M3 else fn9_perfectOnes_b36 N k4 x1 (1 : Int32) r0 x2 M3))
def fn9_perfectOnes_b4B (N : Nat) (k4 : Nat → Int32 → Int32 → am_Mem → Option (Int32 × am_Mem)) (r0 : Nat) (x1 : Int32) (x2 : Int32) (M : am_Mem) : Option (Int32 × am_Mem) :=
  am_ck (am_k M r0 9) (if (am_I M r0 1) ≤ x2 then some (x1, M) else am_ck (am_k M (am_R M r0 0) 18) (am_ck (am_in x2 (am_L M (am_R M r0 0))) (fn9_perfectOnes_b19 N k4 r0 x1 x2 (am_R M (am_R M r0 0) x2.toNatClampNeg) M)))
def fn9_perfectOnes_b4 (N : Nat)  : Nat → Nat → Int32 → Int32 → am_Mem → Option (Int32 × am_Mem)
  | 0 => fun _ _ _ _ => none
  | i + 1 => fn9_perfectOnes_b4B N (fn9_perfectOnes_b4 N  i)
def fn9_perfectOnes_b0 (N : Nat)  (r0 : Nat) (M : am_Mem) : Option (Int32 × am_Mem) :=
  fn9_perfectOnes_b4 N  N r0 (0 : Int32) (0 : Int32) M
def fn9_perfectOnes (N : Nat) (M : am_Mem) (r0 : Nat) : Option (Int32 × am_Mem) := fn9_perfectOnes_b0 N r0 M
def rm9_perfectOnes : Room := { frames := 1, cells := 0, slots := 0, locals := 22 }
set_option maxRecDepth 20000 in
theorem sn9_perfectOnes_b38 {l : Launch} {G : am_G} {v : Int32} {M' : am_Mem} {N : Nat} {k4 : Nat → Int32 → Int32 → am_Mem → Option (Int32 × am_Mem)} (cx : am_Ctx l rm9_perfectOnes yX9_perfectOnes cX9_perfectOnes 4 (some .int) (some (.inl v)) M' 0 0 G) (hk4 : ∀ (r0 : Nat) (x1 : Int32) (x2 : Int32) (M : am_Mem), k4 r0 x1 x2 M = some (v, M') → G 4 [(0, .inr (.inr (.inl r0))), (1, .inl x1), (2, .inl x2)] [] M 0 0) {r0 : Nat} {x1 : Int32} {x2 : Int32} {M : am_Mem} (hres : fn9_perfectOnes_b38 N k4 r0 x1 x2 M = some (v, M')) : G 38 [(0, .inr (.inr (.inl r0))), (1, .inl x1), (2, .inl x2)] [] M 0 0 := by
  unfold fn9_perfectOnes_b38 at hres
  refine am_iincw cx (lv' := [(0, .inr (.inr (.inl r0))), (1, .inl x1), (2, .inl (x2 + (1 : Int32)))]) (w := (1 : Int32)) 2 dX9_perfectOnes_38 (by decide) rfl (Nat.le_of_ble_eq_true rfl) rfl ?_
  refine am_goto cx (tgt := 4) dX9_perfectOnes_41 (by decide) ?_
  exact hk4 _ _ _ _ hres
set_option maxRecDepth 20000 in
theorem sn9_perfectOnes_b36 {l : Launch} {G : am_G} {v : Int32} {M' : am_Mem} {N : Nat} {k4 : Nat → Int32 → Int32 → am_Mem → Option (Int32 × am_Mem)} (cx : am_Ctx l rm9_perfectOnes yX9_perfectOnes cX9_perfectOnes 4 (some .int) (some (.inl v)) M' 0 0 G) (hk4 : ∀ (r0 : Nat) (x1 : Int32) (x2 : Int32) (M : am_Mem), k4 r0 x1 x2 M = some (v, M') → G 4 [(0, .inr (.inr (.inl r0))), (1, .inl x1), (2, .inl x2)] [] M 0 0) {a0 : Int32} {a1 : Int32} {r0 : Nat} {x2 : Int32} {M : am_Mem} (hres : fn9_perfectOnes_b36 N k4 a0 a1 r0 x2 M = some (v, M')) : G 36 [(0, .inr (.inr (.inl r0))), (2, .inl x2)] [.inl a1, .inl a0] M 0 0 := by
  unfold fn9_perfectOnes_b36 at hres
  refine am_iadd cx dX9_perfectOnes_36 ?_
  refine am_istore_n cx (lv' := [(0, .inr (.inr (.inl r0))), (1, .inl (a0 + a1)), (2, .inl x2)]) dX9_perfectOnes_37 (Nat.le_of_ble_eq_true rfl) rfl ?_
  exact sn9_perfectOnes_b38 cx hk4 hres
set_option maxRecDepth 20000 in
theorem sn9_perfectOnes_b35 {l : Launch} {G : am_G} {v : Int32} {M' : am_Mem} {N : Nat} {k4 : Nat → Int32 → Int32 → am_Mem → Option (Int32 × am_Mem)} (cx : am_Ctx l rm9_perfectOnes yX9_perfectOnes cX9_perfectOnes 4 (some .int) (some (.inl v)) M' 0 0 G) (hk4 : ∀ (r0 : Nat) (x1 : Int32) (x2 : Int32) (M : am_Mem), k4 r0 x1 x2 M = some (v, M') → G 4 [(0, .inr (.inr (.inl r0))), (1, .inl x1), (2, .inl x2)] [] M 0 0) {a0 : Int32} {r0 : Nat} {x2 : Int32} {M : am_Mem} (hres : fn9_perfectOnes_b35 N k4 a0 r0 x2 M = some (v, M')) : G 35 [(0, .inr (.inr (.inl r0))), (2, .inl x2)] [.inl a0] M 0 0 := by
  unfold fn9_perfectOnes_b35 at hres
  refine am_iconst cx (v := (0 : Int32)) dX9_perfectOnes_35 (by decide) ?_
  exact sn9_perfectOnes_b36 cx hk4 hres
set_option maxRecDepth 20000 in
theorem sn9_perfectOnes_b19 {l : Launch} {G : am_G} {v : Int32} {M' : am_Mem} {N : Nat} {k4 : Nat → Int32 → Int32 → am_Mem → Option (Int32 × am_Mem)} (cx : am_Ctx l rm9_perfectOnes yX9_perfectOnes cX9_perfectOnes 4 (some .int) (some (.inl v)) M' 0 0 G) (hk4 : ∀ (r0 : Nat) (x1 : Int32) (x2 : Int32) (M : am_Mem), k4 r0 x1 x2 M = some (v, M') → G 4 [(0, .inr (.inr (.inl r0))), (1, .inl x1), (2, .inl x2)] [] M 0 0) {r0 : Nat} {x1 : Int32} {x2 : Int32} {r3 : Nat} {M : am_Mem} (hres : fn9_perfectOnes_b19 N k4 r0 x1 x2 r3 M = some (v, M')) : G 19 [(0, .inr (.inr (.inl r0))), (1, .inl x1), (2, .inl x2), (3, .inr (.inr (.inl r3)))] [] M 0 0 := by
  unfold fn9_perfectOnes_b19 at hres
  refine am_iload_n cx 1 dX9_perfectOnes_19 rfl ?_
  refine am_aload_n cx 3 dX9_perfectOnes_20 rfl ?_
  refine am_ifnull cx (tgt := 35) dX9_perfectOnes_21 (by decide) (fun h => ?_) (fun h => ?_)
  · have hres := am_ifp h hres
    refine am_sub cx [0, 2] rfl ?_
    exact sn9_perfectOnes_b35 cx hk4 hres
  · have hres := am_ifn h hres
    refine am_aload_n cx 3 dX9_perfectOnes_24 rfl ?_
    obtain ⟨q1, hres⟩ := am_ck_some hres
    obtain ⟨v2, M3, q4, hres⟩ := am_bd_some hres
    refine am_callV1 cx [] dX9_perfectOnes_25 cvX9_28 (mt10_isPerfect q4) (am_ke q1) ⟨rfl, rfl, Nat.le_of_ble_eq_true rfl, Nat.le_of_ble_eq_true rfl⟩ rfl (Nat.le_of_ble_eq_true rfl) ⟨Nat.le_of_ble_eq_true rfl, Nat.le_of_ble_eq_true rfl⟩ ?_
    refine am_if_eq cx (tgt := 35) dX9_perfectOnes_28 (by decide) (fun h => ?_) (fun h => ?_)
    · have hres := am_ifp h hres
      refine am_sub cx [0, 2] rfl ?_
      exact sn9_perfectOnes_b35 cx hk4 hres
    · have hres := am_ifn h hres
      refine am_iconst cx (v := (1 : Int32)) dX9_perfectOnes_31 (by decide) ?_
      refine am_goto cx (tgt := 36) dX9_perfectOnes_32 (by decide) ?_
      refine am_sub cx [0, 2] rfl ?_
      exact sn9_perfectOnes_b36 cx hk4 hres
set_option maxRecDepth 20000 in
theorem sn9_perfectOnes_b4B {l : Launch} {G : am_G} {v : Int32} {M' : am_Mem} {N : Nat} {k4 : Nat → Int32 → Int32 → am_Mem → Option (Int32 × am_Mem)} (cx : am_Ctx l rm9_perfectOnes yX9_perfectOnes cX9_perfectOnes 4 (some .int) (some (.inl v)) M' 0 0 G) (hk4 : ∀ (r0 : Nat) (x1 : Int32) (x2 : Int32) (M : am_Mem), k4 r0 x1 x2 M = some (v, M') → G 4 [(0, .inr (.inr (.inl r0))), (1, .inl x1), (2, .inl x2)] [] M 0 0) {r0 : Nat} {x1 : Int32} {x2 : Int32} {M : am_Mem} (hres : fn9_perfectOnes_b4B N k4 r0 x1 x2 M = some (v, M')) : G 4 [(0, .inr (.inr (.inl r0))), (1, .inl x1), (2, .inl x2)] [] M 0 0 := by
  unfold fn9_perfectOnes_b4B at hres
  refine am_iload_n cx 2 dX9_perfectOnes_4 rfl ?_
  refine am_aload_n cx 0 dX9_perfectOnes_5 rfl ?_
  obtain ⟨q1, hres⟩ := am_ck_some hres
  refine am_getI cx dX9_perfectOnes_6 flX9_17 (am_ke q1) ?_
  refine am_icmp_ge cx (tgt := 44) dX9_perfectOnes_9 (by decide) (fun h => ?_) (fun h => ?_)
  · have hres := am_ifp h hres
    refine am_iload_n cx 1 dX9_perfectOnes_44 rfl ?_
    obtain ⟨rfl, rfl⟩ := am_fin hres
    exact am_iret cx dX9_perfectOnes_45
  · have hres := am_ifn h hres
    refine am_aload_n cx 0 dX9_perfectOnes_12 rfl ?_
    refine am_getR cx dX9_perfectOnes_13 flX9_11 (am_ke q1) ?_
    refine am_iload_n cx 2 dX9_perfectOnes_16 rfl ?_
    obtain ⟨q2, hres⟩ := am_ck_some hres
    obtain ⟨q3, hres⟩ := am_ck_some hres
    refine am_aald18 cx dX9_perfectOnes_17 (am_ke q2) q3 ?_
    refine am_astore_n cx (lv' := [(0, .inr (.inr (.inl r0))), (1, .inl x1), (2, .inl x2), (3, .inr (.inr (.inl (am_R M (am_R M r0 0) x2.toNatClampNeg))))]) dX9_perfectOnes_18 (Nat.le_of_ble_eq_true rfl) rfl ?_
    exact sn9_perfectOnes_b19 cx hk4 hres
set_option maxRecDepth 20000 in
theorem sn9_perfectOnes_b4 {l : Launch} {G : am_G} {v : Int32} {M' : am_Mem} {N : Nat}  (cx : am_Ctx l rm9_perfectOnes yX9_perfectOnes cX9_perfectOnes 4 (some .int) (some (.inl v)) M' 0 0 G)  (i : Nat) : ∀ (r0 : Nat) (x1 : Int32) (x2 : Int32) (M : am_Mem), fn9_perfectOnes_b4 N  i r0 x1 x2 M = some (v, M') → G 4 [(0, .inr (.inr (.inl r0))), (1, .inl x1), (2, .inl x2)] [] M 0 0 := by
  induction i with
  | zero => intro r0 x1 x2 M hres; exact am_no hres
  | succ i ih => intro r0 x1 x2 M hres; exact sn9_perfectOnes_b4B cx ih hres
set_option maxRecDepth 20000 in
theorem sn9_perfectOnes_b0 {l : Launch} {G : am_G} {v : Int32} {M' : am_Mem} {N : Nat}  (cx : am_Ctx l rm9_perfectOnes yX9_perfectOnes cX9_perfectOnes 4 (some .int) (some (.inl v)) M' 0 0 G)  {r0 : Nat} {M : am_Mem} (hres : fn9_perfectOnes_b0 N  r0 M = some (v, M')) : G 0 [(0, .inr (.inr (.inl r0)))] [] M 0 0 := by
  unfold fn9_perfectOnes_b0 at hres
  refine am_iconst cx (v := (0 : Int32)) dX9_perfectOnes_0 (by decide) ?_
  refine am_istore_n cx (lv' := [(0, .inr (.inr (.inl r0))), (1, .inl (0 : Int32))]) dX9_perfectOnes_1 (Nat.le_of_ble_eq_true rfl) rfl ?_
  refine am_iconst cx (v := (0 : Int32)) dX9_perfectOnes_2 (by decide) ?_
  refine am_istore_n cx (lv' := [(0, .inr (.inr (.inl r0))), (1, .inl (0 : Int32)), (2, .inl (0 : Int32))]) dX9_perfectOnes_3 (Nat.le_of_ble_eq_true rfl) rfl ?_
  exact sn9_perfectOnes_b4 cx  N _ _ _ _ hres
set_option maxRecDepth 20000 in
theorem mt9_perfectOnes {l : Launch} {v : Int32} {M M' : am_Mem} {N : Nat} {r0 : Nat} (h : fn9_perfectOnes N M r0 = some (v, M')) : am_Met l yX9_perfectOnes cX9_perfectOnes 4 (some .int) rm9_perfectOnes 0 0 [.inr (.inr (.inl r0))] M (some (.inl v)) M' := am_mk (by decide) (Nat.le_of_ble_eq_true rfl) (fun G cx => (sn9_perfectOnes_b0 cx h))
-- SquareCuts$Tiling.commonDivisor
def fn10_commonDivisor_b4B (N : Nat) (k4 : Nat → Int32 → Int32 → am_Mem → Option (Int32 × am_Mem)) (r0 : Nat) (x1 : Int32) (x2 : Int32) (M : am_Mem) : Option (Int32 × am_Mem) :=
  am_ck (am_k M r0 10) (if (am_I M r0 4) ≤ x2 then some (x1, M) else am_ck (am_k M (am_R M r0 9) 14) (am_ck (am_in x2 (am_L M (am_R M r0 9))) (am_bd (fn11_greatestDivisor N M x1 (am_I M (am_R M r0 9) x2.toNatClampNeg)) (fun v4 M5 => k4 r0 v4 (x2 + (1 : Int32)) M5))))
def fn10_commonDivisor_b4 (N : Nat)  : Nat → Nat → Int32 → Int32 → am_Mem → Option (Int32 × am_Mem)
  | 0 => fun _ _ _ _ => none
  | i + 1 => fn10_commonDivisor_b4B N (fn10_commonDivisor_b4 N  i)
def fn10_commonDivisor_b0 (N : Nat)  (r0 : Nat) (M : am_Mem) : Option (Int32 × am_Mem) :=
  fn10_commonDivisor_b4 N  N r0 (0 : Int32) (0 : Int32) M
def fn10_commonDivisor (N : Nat) (M : am_Mem) (r0 : Nat) : Option (Int32 × am_Mem) := fn10_commonDivisor_b0 N r0 M
def rm10_commonDivisor : Room := { frames := 2, cells := 0, slots := 0, locals := 46 }
set_option maxRecDepth 20000 in
theorem sn10_commonDivisor_b4B {l : Launch} {G : am_G} {v : Int32} {M' : am_Mem} {N : Nat} {k4 : Nat → Int32 → Int32 → am_Mem → Option (Int32 × am_Mem)} (cx : am_Ctx l rm10_commonDivisor yX10_commonDivisor cX10_commonDivisor 3 (some .int) (some (.inl v)) M' 0 0 G) (hk4 : ∀ (r0 : Nat) (x1 : Int32) (x2 : Int32) (M : am_Mem), k4 r0 x1 x2 M = some (v, M') → G 4 [(0, .inr (.inr (.inl r0))), (1, .inl x1), (2, .inl x2)] [] M 0 0) {r0 : Nat} {x1 : Int32} {x2 : Int32} {M : am_Mem} (hres : fn10_commonDivisor_b4B N k4 r0 x1 x2 M = some (v, M')) : G 4 [(0, .inr (.inr (.inl r0))), (1, .inl x1), (2, .inl x2)] [] M 0 0 := by
  unfold fn10_commonDivisor_b4B at hres
  refine am_iload_n cx 2 dX10_commonDivisor_4 rfl ?_
  refine am_aload_n cx 0 dX10_commonDivisor_5 rfl ?_
  obtain ⟨q1, hres⟩ := am_ck_some hres
  refine am_getI cx dX10_commonDivisor_6 flX10_32 (am_ke q1) ?_
  refine am_icmp_ge cx (tgt := 29) dX10_commonDivisor_9 (by decide) (fun h => ?_) (fun h => ?_)
  · have hres := am_ifp h hres
    refine am_iload_n cx 1 dX10_commonDivisor_29 rfl ?_
    obtain ⟨rfl, rfl⟩ := am_fin hres
    exact am_iret cx dX10_commonDivisor_30
  · have hres := am_ifn h hres
    refine am_iload_n cx 1 dX10_commonDivisor_12 rfl ?_
    refine am_aload_n cx 0 dX10_commonDivisor_13 rfl ?_
    refine am_getR cx dX10_commonDivisor_14 flX10_48 (am_ke q1) ?_
    refine am_iload_n cx 2 dX10_commonDivisor_17 rfl ?_
    obtain ⟨q2, hres⟩ := am_ck_some hres
    obtain ⟨q3, hres⟩ := am_ck_some hres
    refine am_iald cx dX10_commonDivisor_18 (am_ke q2) q3 ?_
    obtain ⟨v4, M5, q6, hres⟩ := am_bd_some hres
    refine am_callSN1 cx [.inl x1, .inl (am_I M (am_R M r0 9) x2.toNatClampNeg)] dX10_commonDivisor_19 csX10_54 (mt11_greatestDivisor q6)  ⟨rfl, rfl, Nat.le_of_ble_eq_true rfl, Nat.le_of_ble_eq_true rfl⟩ rfl (Nat.le_of_ble_eq_true rfl) ⟨Nat.le_of_ble_eq_true rfl, Nat.le_of_ble_eq_true rfl⟩ ?_
    refine am_istore_n cx (lv' := [(0, .inr (.inr (.inl r0))), (1, .inl v4), (2, .inl x2)]) dX10_commonDivisor_22 (Nat.le_of_ble_eq_true rfl) rfl ?_
    refine am_iincw cx (lv' := [(0, .inr (.inr (.inl r0))), (1, .inl v4), (2, .inl (x2 + (1 : Int32)))]) (w := (1 : Int32)) 2 dX10_commonDivisor_23 (by decide) rfl (Nat.le_of_ble_eq_true rfl) rfl ?_
    refine am_goto cx (tgt := 4) dX10_commonDivisor_26 (by decide) ?_
    exact hk4 _ _ _ _ hres
set_option maxRecDepth 20000 in
theorem sn10_commonDivisor_b4 {l : Launch} {G : am_G} {v : Int32} {M' : am_Mem} {N : Nat}  (cx : am_Ctx l rm10_commonDivisor yX10_commonDivisor cX10_commonDivisor 3 (some .int) (some (.inl v)) M' 0 0 G)  (i : Nat) : ∀ (r0 : Nat) (x1 : Int32) (x2 : Int32) (M : am_Mem), fn10_commonDivisor_b4 N  i r0 x1 x2 M = some (v, M') → G 4 [(0, .inr (.inr (.inl r0))), (1, .inl x1), (2, .inl x2)] [] M 0 0 := by
  induction i with
  | zero => intro r0 x1 x2 M hres; exact am_no hres
  | succ i ih => intro r0 x1 x2 M hres; exact sn10_commonDivisor_b4B cx ih hres
set_option maxRecDepth 20000 in
theorem sn10_commonDivisor_b0 {l : Launch} {G : am_G} {v : Int32} {M' : am_Mem} {N : Nat}  (cx : am_Ctx l rm10_commonDivisor yX10_commonDivisor cX10_commonDivisor 3 (some .int) (some (.inl v)) M' 0 0 G)  {r0 : Nat} {M : am_Mem} (hres : fn10_commonDivisor_b0 N  r0 M = some (v, M')) : G 0 [(0, .inr (.inr (.inl r0)))] [] M 0 0 := by
  unfold fn10_commonDivisor_b0 at hres
  refine am_iconst cx (v := (0 : Int32)) dX10_commonDivisor_0 (by decide) ?_
  refine am_istore_n cx (lv' := [(0, .inr (.inr (.inl r0))), (1, .inl (0 : Int32))]) dX10_commonDivisor_1 (Nat.le_of_ble_eq_true rfl) rfl ?_
  refine am_iconst cx (v := (0 : Int32)) dX10_commonDivisor_2 (by decide) ?_
  refine am_istore_n cx (lv' := [(0, .inr (.inr (.inl r0))), (1, .inl (0 : Int32)), (2, .inl (0 : Int32))]) dX10_commonDivisor_3 (Nat.le_of_ble_eq_true rfl) rfl ?_
  exact sn10_commonDivisor_b4 cx  N _ _ _ _ hres
set_option maxRecDepth 20000 in
theorem mt10_commonDivisor {l : Launch} {v : Int32} {M M' : am_Mem} {N : Nat} {r0 : Nat} (h : fn10_commonDivisor N M r0 = some (v, M')) : am_Met l yX10_commonDivisor cX10_commonDivisor 3 (some .int) rm10_commonDivisor 0 0 [.inr (.inr (.inl r0))] M (some (.inl v)) M' := am_mk (by decide) (Nat.le_of_ble_eq_true rfl) (fun G cx => (sn10_commonDivisor_b0 cx h))
-- SquareCuts$Tiling.parts
def fn10_parts_b69 (N : Nat)  (r0 : Nat) (M : am_Mem) : Option (Int32 × am_Mem) :=
  am_ck (am_k M r0 10) (some ((am_I M r0 10), M))
def fn10_parts_b52 (N : Nat) (k12 : Nat → Int32 → Int32 → am_Mem → Option (Int32 × am_Mem)) (k22 : Nat → Int32 → Int32 → Int32 → am_Mem → Option (Int32 × am_Mem)) (r0 : Nat) (x1 : Int32) (x2 : Int32) (x3 : Int32) (M : am_Mem) : Option (Int32 × am_Mem) :=
  k22 r0 x1 x2 (x3 + (1 : Int32)) M
def fn10_parts_b50 (N : Nat) (k12 : Nat → Int32 → Int32 → am_Mem → Option (Int32 × am_Mem)) (k22 : Nat → Int32 → Int32 → Int32 → am_Mem → Option (Int32 × am_Mem)) (a0 : Int32) (a1 : Int32) (r0 : Nat) (x2 : Int32) (x3 : Int32) (M : am_Mem) : Option (Int32 × am_Mem) :=
  fn10_parts_b52 N k12 k22 r0 (a0 + a1) x2 x3 M
def fn10_parts_b49 (N : Nat) (k12 : Nat → Int32 → Int32 → am_Mem → Option (Int32 × am_Mem)) (k22 : Nat → Int32 → Int32 → Int32 → am_Mem → Option (Int32 × am_Mem)) (a0 : Int32) (r0 : Nat) (x2 : Int32) (x3 : Int32) (M : am_Mem) : Option (Int32 × am_Mem) :=
  fn10_parts_b50 N k12 k22 a0 (0 : Int32) r0 x2 x3 M
def fn10_parts_b22B (N : Nat) (k12 : Nat → Int32 → Int32 → am_Mem → Option (Int32 × am_Mem)) (k22 : Nat → Int32 → Int32 → Int32 → am_Mem → Option (Int32 × am_Mem)) (r0 : Nat) (x1 : Int32) (x2 : Int32) (x3 : Int32) (M : am_Mem) : Option (Int32 × am_Mem) :=
  am_ck (am_k M r0 10) (if (am_I M r0 4) ≤ x3 then k12 r0 x1 (x2 + (1 : Int32)) M else if x2 = x3 then fn10_parts_b49 N k12 k22 x1 r0 x2 x3 M else am_bd (fn10_isPart N M r0 x2 x3) (fun v2 M3 => if v2 = 0 then fn10_parts_b49 N k12 k22 x1 r0 x2 x3 M3 else fn10_parts_b50 N k12 k22 x1 (1 : Int32) r0 x2 x3 M3))
def fn10_parts_b22 (N : Nat) (k12 : Nat → Int32 → Int32 → am_Mem → Option (Int32 × am_Mem)) : Nat → Nat → Int32 → Int32 → Int32 → am_Mem → Option (Int32 × am_Mem)
  | 0 => fun _ _ _ _ _ => none
  | i + 1 => fn10_parts_b22B N k12 (fn10_parts_b22 N k12 i)
def fn10_parts_b12B (N : Nat) (k12 : Nat → Int32 → Int32 → am_Mem → Option (Int32 × am_Mem)) (r0 : Nat) (x1 : Int32) (x2 : Int32) (M : am_Mem) : Option (Int32 × am_Mem) :=
  am_ck (am_k M r0 10) (if (am_I M r0 4) ≤ x2 then fn10_parts_b69 N  r0 (am_wI M r0 10 x1) else fn10_parts_b22 N k12 N r0 x1 x2 (0 : Int32) M)
def fn10_parts_b12 (N : Nat)  : Nat → Nat → Int32 → Int32 → am_Mem → Option (Int32 × am_Mem)
  | 0 => fun _ _ _ _ => none
  | i + 1 => fn10_parts_b12B N (fn10_parts_b12 N  i)
def fn10_parts_b0 (N : Nat)  (r0 : Nat) (M : am_Mem) : Option (Int32 × am_Mem) :=
  am_ck (am_k M r0 10) (if (am_I M r0 10) = (-1 : Int32) then fn10_parts_b12 N  N r0 (0 : Int32) (0 : Int32) M else fn10_parts_b69 N  r0 M)
def fn10_parts (N : Nat) (M : am_Mem) (r0 : Nat) : Option (Int32 × am_Mem) := fn10_parts_b0 N r0 M
def rm10_parts : Room := { frames := 2, cells := 0, slots := 0, locals := 50 }
set_option maxRecDepth 20000 in
theorem sn10_parts_b69 {l : Launch} {G : am_G} {v : Int32} {M' : am_Mem} {N : Nat}  (cx : am_Ctx l rm10_parts yX10_parts cX10_parts 4 (some .int) (some (.inl v)) M' 0 0 G)  {r0 : Nat} {M : am_Mem} (hres : fn10_parts_b69 N  r0 M = some (v, M')) : G 69 [(0, .inr (.inr (.inl r0)))] [] M 0 0 := by
  unfold fn10_parts_b69 at hres
  refine am_aload_n cx 0 dX10_parts_69 rfl ?_
  obtain ⟨q1, hres⟩ := am_ck_some hres
  refine am_getI cx dX10_parts_70 flX10_9 (am_ke q1) ?_
  obtain ⟨rfl, rfl⟩ := am_fin hres
  exact am_iret cx dX10_parts_73
set_option maxRecDepth 20000 in
theorem sn10_parts_b52 {l : Launch} {G : am_G} {v : Int32} {M' : am_Mem} {N : Nat} {k12 : Nat → Int32 → Int32 → am_Mem → Option (Int32 × am_Mem)} {k22 : Nat → Int32 → Int32 → Int32 → am_Mem → Option (Int32 × am_Mem)} (cx : am_Ctx l rm10_parts yX10_parts cX10_parts 4 (some .int) (some (.inl v)) M' 0 0 G) (hk12 : ∀ (r0 : Nat) (x1 : Int32) (x2 : Int32) (M : am_Mem), k12 r0 x1 x2 M = some (v, M') → G 12 [(0, .inr (.inr (.inl r0))), (1, .inl x1), (2, .inl x2)] [] M 0 0) (hk22 : ∀ (r0 : Nat) (x1 : Int32) (x2 : Int32) (x3 : Int32) (M : am_Mem), k22 r0 x1 x2 x3 M = some (v, M') → G 22 [(0, .inr (.inr (.inl r0))), (1, .inl x1), (2, .inl x2), (3, .inl x3)] [] M 0 0) {r0 : Nat} {x1 : Int32} {x2 : Int32} {x3 : Int32} {M : am_Mem} (hres : fn10_parts_b52 N k12 k22 r0 x1 x2 x3 M = some (v, M')) : G 52 [(0, .inr (.inr (.inl r0))), (1, .inl x1), (2, .inl x2), (3, .inl x3)] [] M 0 0 := by
  unfold fn10_parts_b52 at hres
  refine am_iincw cx (lv' := [(0, .inr (.inr (.inl r0))), (1, .inl x1), (2, .inl x2), (3, .inl (x3 + (1 : Int32)))]) (w := (1 : Int32)) 3 dX10_parts_52 (by decide) rfl (Nat.le_of_ble_eq_true rfl) rfl ?_
  refine am_goto cx (tgt := 22) dX10_parts_55 (by decide) ?_
  exact hk22 _ _ _ _ _ hres
set_option maxRecDepth 20000 in
theorem sn10_parts_b50 {l : Launch} {G : am_G} {v : Int32} {M' : am_Mem} {N : Nat} {k12 : Nat → Int32 → Int32 → am_Mem → Option (Int32 × am_Mem)} {k22 : Nat → Int32 → Int32 → Int32 → am_Mem → Option (Int32 × am_Mem)} (cx : am_Ctx l rm10_parts yX10_parts cX10_parts 4 (some .int) (some (.inl v)) M' 0 0 G) (hk12 : ∀ (r0 : Nat) (x1 : Int32) (x2 : Int32) (M : am_Mem), k12 r0 x1 x2 M = some (v, M') → G 12 [(0, .inr (.inr (.inl r0))), (1, .inl x1), (2, .inl x2)] [] M 0 0) (hk22 : ∀ (r0 : Nat) (x1 : Int32) (x2 : Int32) (x3 : Int32) (M : am_Mem), k22 r0 x1 x2 x3 M = some (v, M') → G 22 [(0, .inr (.inr (.inl r0))), (1, .inl x1), (2, .inl x2), (3, .inl x3)] [] M 0 0) {a0 : Int32} {a1 : Int32} {r0 : Nat} {x2 : Int32} {x3 : Int32} {M : am_Mem} (hres : fn10_parts_b50 N k12 k22 a0 a1 r0 x2 x3 M = some (v, M')) : G 50 [(0, .inr (.inr (.inl r0))), (2, .inl x2), (3, .inl x3)] [.inl a1, .inl a0] M 0 0 := by
  unfold fn10_parts_b50 at hres
  refine am_iadd cx dX10_parts_50 ?_
  refine am_istore_n cx (lv' := [(0, .inr (.inr (.inl r0))), (1, .inl (a0 + a1)), (2, .inl x2), (3, .inl x3)]) dX10_parts_51 (Nat.le_of_ble_eq_true rfl) rfl ?_
  exact sn10_parts_b52 cx hk12 hk22 hres
set_option maxRecDepth 20000 in
theorem sn10_parts_b49 {l : Launch} {G : am_G} {v : Int32} {M' : am_Mem} {N : Nat} {k12 : Nat → Int32 → Int32 → am_Mem → Option (Int32 × am_Mem)} {k22 : Nat → Int32 → Int32 → Int32 → am_Mem → Option (Int32 × am_Mem)} (cx : am_Ctx l rm10_parts yX10_parts cX10_parts 4 (some .int) (some (.inl v)) M' 0 0 G) (hk12 : ∀ (r0 : Nat) (x1 : Int32) (x2 : Int32) (M : am_Mem), k12 r0 x1 x2 M = some (v, M') → G 12 [(0, .inr (.inr (.inl r0))), (1, .inl x1), (2, .inl x2)] [] M 0 0) (hk22 : ∀ (r0 : Nat) (x1 : Int32) (x2 : Int32) (x3 : Int32) (M : am_Mem), k22 r0 x1 x2 x3 M = some (v, M') → G 22 [(0, .inr (.inr (.inl r0))), (1, .inl x1), (2, .inl x2), (3, .inl x3)] [] M 0 0) {a0 : Int32} {r0 : Nat} {x2 : Int32} {x3 : Int32} {M : am_Mem} (hres : fn10_parts_b49 N k12 k22 a0 r0 x2 x3 M = some (v, M')) : G 49 [(0, .inr (.inr (.inl r0))), (2, .inl x2), (3, .inl x3)] [.inl a0] M 0 0 := by
  unfold fn10_parts_b49 at hres
  refine am_iconst cx (v := (0 : Int32)) dX10_parts_49 (by decide) ?_
  exact sn10_parts_b50 cx hk12 hk22 hres
set_option maxRecDepth 20000 in
theorem sn10_parts_b22B {l : Launch} {G : am_G} {v : Int32} {M' : am_Mem} {N : Nat} {k12 : Nat → Int32 → Int32 → am_Mem → Option (Int32 × am_Mem)} {k22 : Nat → Int32 → Int32 → Int32 → am_Mem → Option (Int32 × am_Mem)} (cx : am_Ctx l rm10_parts yX10_parts cX10_parts 4 (some .int) (some (.inl v)) M' 0 0 G) (hk12 : ∀ (r0 : Nat) (x1 : Int32) (x2 : Int32) (M : am_Mem), k12 r0 x1 x2 M = some (v, M') → G 12 [(0, .inr (.inr (.inl r0))), (1, .inl x1), (2, .inl x2)] [] M 0 0) (hk22 : ∀ (r0 : Nat) (x1 : Int32) (x2 : Int32) (x3 : Int32) (M : am_Mem), k22 r0 x1 x2 x3 M = some (v, M') → G 22 [(0, .inr (.inr (.inl r0))), (1, .inl x1), (2, .inl x2), (3, .inl x3)] [] M 0 0) {r0 : Nat} {x1 : Int32} {x2 : Int32} {x3 : Int32} {M : am_Mem} (hres : fn10_parts_b22B N k12 k22 r0 x1 x2 x3 M = some (v, M')) : G 22 [(0, .inr (.inr (.inl r0))), (1, .inl x1), (2, .inl x2), (3, .inl x3)] [] M 0 0 := by
  unfold fn10_parts_b22B at hres
  refine am_iload_n cx 3 dX10_parts_22 rfl ?_
  refine am_aload_n cx 0 dX10_parts_23 rfl ?_
  obtain ⟨q1, hres⟩ := am_ck_some hres
  refine am_getI cx dX10_parts_24 flX10_32 (am_ke q1) ?_
  refine am_icmp_ge cx (tgt := 58) dX10_parts_27 (by decide) (fun h => ?_) (fun h => ?_)
  · have hres := am_ifp h hres
    refine am_iincw cx (lv' := [(0, .inr (.inr (.inl r0))), (1, .inl x1), (2, .inl (x2 + (1 : Int32))), (3, .inl x3)]) (w := (1 : Int32)) 2 dX10_parts_58 (by decide) rfl (Nat.le_of_ble_eq_true rfl) rfl ?_
    refine am_goto cx (tgt := 12) dX10_parts_61 (by decide) ?_
    refine am_sub cx [0, 1, 2] rfl ?_
    exact hk12 _ _ _ _ hres
  · have hres := am_ifn h hres
    refine am_iload_n cx 1 dX10_parts_30 rfl ?_
    refine am_iload_n cx 2 dX10_parts_31 rfl ?_
    refine am_iload_n cx 3 dX10_parts_32 rfl ?_
    refine am_icmp_eq cx (tgt := 49) dX10_parts_33 (by decide) (fun h => ?_) (fun h => ?_)
    · have hres := am_ifp h hres
      refine am_sub cx [0, 2, 3] rfl ?_
      exact sn10_parts_b49 cx hk12 hk22 hres
    · have hres := am_ifn h hres
      refine am_aload_n cx 0 dX10_parts_36 rfl ?_
      refine am_iload_n cx 2 dX10_parts_37 rfl ?_
      refine am_iload_n cx 3 dX10_parts_38 rfl ?_
      obtain ⟨v2, M3, q4, hres⟩ := am_bd_some hres
      refine am_callV1 cx [.inl x2, .inl x3] dX10_parts_39 cvX10_68 (mt10_isPart q4) (am_ke q1) ⟨rfl, rfl, Nat.le_of_ble_eq_true rfl, Nat.le_of_ble_eq_true rfl⟩ rfl (Nat.le_of_ble_eq_true rfl) ⟨Nat.le_of_ble_eq_true rfl, Nat.le_of_ble_eq_true rfl⟩ ?_
      refine am_if_eq cx (tgt := 49) dX10_parts_42 (by decide) (fun h => ?_) (fun h => ?_)
      · have hres := am_ifp h hres
        refine am_sub cx [0, 2, 3] rfl ?_
        exact sn10_parts_b49 cx hk12 hk22 hres
      · have hres := am_ifn h hres
        refine am_iconst cx (v := (1 : Int32)) dX10_parts_45 (by decide) ?_
        refine am_goto cx (tgt := 50) dX10_parts_46 (by decide) ?_
        refine am_sub cx [0, 2, 3] rfl ?_
        exact sn10_parts_b50 cx hk12 hk22 hres
set_option maxRecDepth 20000 in
theorem sn10_parts_b22 {l : Launch} {G : am_G} {v : Int32} {M' : am_Mem} {N : Nat} {k12 : Nat → Int32 → Int32 → am_Mem → Option (Int32 × am_Mem)} (cx : am_Ctx l rm10_parts yX10_parts cX10_parts 4 (some .int) (some (.inl v)) M' 0 0 G) (hk12 : ∀ (r0 : Nat) (x1 : Int32) (x2 : Int32) (M : am_Mem), k12 r0 x1 x2 M = some (v, M') → G 12 [(0, .inr (.inr (.inl r0))), (1, .inl x1), (2, .inl x2)] [] M 0 0) (i : Nat) : ∀ (r0 : Nat) (x1 : Int32) (x2 : Int32) (x3 : Int32) (M : am_Mem), fn10_parts_b22 N k12 i r0 x1 x2 x3 M = some (v, M') → G 22 [(0, .inr (.inr (.inl r0))), (1, .inl x1), (2, .inl x2), (3, .inl x3)] [] M 0 0 := by
  induction i with
  | zero => intro r0 x1 x2 x3 M hres; exact am_no hres
  | succ i ih => intro r0 x1 x2 x3 M hres; exact sn10_parts_b22B cx hk12 ih hres
set_option maxRecDepth 20000 in
theorem sn10_parts_b12B {l : Launch} {G : am_G} {v : Int32} {M' : am_Mem} {N : Nat} {k12 : Nat → Int32 → Int32 → am_Mem → Option (Int32 × am_Mem)} (cx : am_Ctx l rm10_parts yX10_parts cX10_parts 4 (some .int) (some (.inl v)) M' 0 0 G) (hk12 : ∀ (r0 : Nat) (x1 : Int32) (x2 : Int32) (M : am_Mem), k12 r0 x1 x2 M = some (v, M') → G 12 [(0, .inr (.inr (.inl r0))), (1, .inl x1), (2, .inl x2)] [] M 0 0) {r0 : Nat} {x1 : Int32} {x2 : Int32} {M : am_Mem} (hres : fn10_parts_b12B N k12 r0 x1 x2 M = some (v, M')) : G 12 [(0, .inr (.inr (.inl r0))), (1, .inl x1), (2, .inl x2)] [] M 0 0 := by
  unfold fn10_parts_b12B at hres
  refine am_iload_n cx 2 dX10_parts_12 rfl ?_
  refine am_aload_n cx 0 dX10_parts_13 rfl ?_
  obtain ⟨q1, hres⟩ := am_ck_some hres
  refine am_getI cx dX10_parts_14 flX10_32 (am_ke q1) ?_
  refine am_icmp_ge cx (tgt := 64) dX10_parts_17 (by decide) (fun h => ?_) (fun h => ?_)
  · have hres := am_ifp h hres
    refine am_aload_n cx 0 dX10_parts_64 rfl ?_
    refine am_iload_n cx 1 dX10_parts_65 rfl ?_
    refine am_putI cx dX10_parts_66 fpX10_9 (fun h => by cases h) (am_ke q1) ?_
    refine am_sub cx [0] rfl ?_
    exact sn10_parts_b69 cx  hres
  · have hres := am_ifn h hres
    refine am_iconst cx (v := (0 : Int32)) dX10_parts_20 (by decide) ?_
    refine am_istore_n cx (lv' := [(0, .inr (.inr (.inl r0))), (1, .inl x1), (2, .inl x2), (3, .inl (0 : Int32))]) dX10_parts_21 (Nat.le_of_ble_eq_true rfl) rfl ?_
    exact sn10_parts_b22 cx hk12 N _ _ _ _ _ hres
set_option maxRecDepth 20000 in
theorem sn10_parts_b12 {l : Launch} {G : am_G} {v : Int32} {M' : am_Mem} {N : Nat}  (cx : am_Ctx l rm10_parts yX10_parts cX10_parts 4 (some .int) (some (.inl v)) M' 0 0 G)  (i : Nat) : ∀ (r0 : Nat) (x1 : Int32) (x2 : Int32) (M : am_Mem), fn10_parts_b12 N  i r0 x1 x2 M = some (v, M') → G 12 [(0, .inr (.inr (.inl r0))), (1, .inl x1), (2, .inl x2)] [] M 0 0 := by
  induction i with
  | zero => intro r0 x1 x2 M hres; exact am_no hres
  | succ i ih => intro r0 x1 x2 M hres; exact sn10_parts_b12B cx ih hres
set_option maxRecDepth 20000 in
theorem sn10_parts_b0 {l : Launch} {G : am_G} {v : Int32} {M' : am_Mem} {N : Nat}  (cx : am_Ctx l rm10_parts yX10_parts cX10_parts 4 (some .int) (some (.inl v)) M' 0 0 G)  {r0 : Nat} {M : am_Mem} (hres : fn10_parts_b0 N  r0 M = some (v, M')) : G 0 [(0, .inr (.inr (.inl r0)))] [] M 0 0 := by
  unfold fn10_parts_b0 at hres
  refine am_aload_n cx 0 dX10_parts_0 rfl ?_
  obtain ⟨q1, hres⟩ := am_ck_some hres
  refine am_getI cx dX10_parts_1 flX10_9 (am_ke q1) ?_
  refine am_iconst cx (v := (-1 : Int32)) dX10_parts_4 (by decide) ?_
  refine am_icmp_ne cx (tgt := 69) dX10_parts_5 (by decide) (fun h => ?_) (fun h => ?_)
  · have hres := am_ifn h hres
    exact sn10_parts_b69 cx  hres
  · have hres := am_ifp h hres
    refine am_iconst cx (v := (0 : Int32)) dX10_parts_8 (by decide) ?_
    refine am_istore_n cx (lv' := [(0, .inr (.inr (.inl r0))), (1, .inl (0 : Int32))]) dX10_parts_9 (Nat.le_of_ble_eq_true rfl) rfl ?_
    refine am_iconst cx (v := (0 : Int32)) dX10_parts_10 (by decide) ?_
    refine am_istore_n cx (lv' := [(0, .inr (.inr (.inl r0))), (1, .inl (0 : Int32)), (2, .inl (0 : Int32))]) dX10_parts_11 (Nat.le_of_ble_eq_true rfl) rfl ?_
    exact sn10_parts_b12 cx  N _ _ _ _ hres
set_option maxRecDepth 20000 in
theorem mt10_parts {l : Launch} {v : Int32} {M M' : am_Mem} {N : Nat} {r0 : Nat} (h : fn10_parts N M r0 = some (v, M')) : am_Met l yX10_parts cX10_parts 4 (some .int) rm10_parts 0 0 [.inr (.inr (.inl r0))] M (some (.inl v)) M' := am_mk (by decide) (Nat.le_of_ble_eq_true rfl) (fun G cx => (sn10_parts_b0 cx h))
-- SquareCuts$Tiling.crosses
def fn10_crosses_b40 (N : Nat) (k4 : Nat → Int32 → Int32 → am_Mem → Option (Int32 × am_Mem)) (r0 : Nat) (x1 : Int32) (x2 : Int32) (M : am_Mem) : Option (Int32 × am_Mem) :=
  k4 r0 x1 (x2 + (1 : Int32)) M
def fn10_crosses_b38 (N : Nat) (k4 : Nat → Int32 → Int32 → am_Mem → Option (Int32 × am_Mem)) (a0 : Int32) (a1 : Int32) (r0 : Nat) (x2 : Int32) (M : am_Mem) : Option (Int32 × am_Mem) :=
  fn10_crosses_b40 N k4 r0 (a0 + a1) x2 M
def fn10_crosses_b4B (N : Nat) (k4 : Nat → Int32 → Int32 → am_Mem → Option (Int32 × am_Mem)) (r0 : Nat) (x1 : Int32) (x2 : Int32) (M : am_Mem) : Option (Int32 × am_Mem) :=
  am_ck (am_k M r0 10) (if (am_I M r0 4) ≤ x2 then some (x1, M) else am_ck (am_k M (am_R M r0 7) 14) (am_ck (am_in x2 (am_L M (am_R M r0 7))) (am_ck (am_k M (am_R M r0 8) 14) (am_ck (am_in x2 (am_L M (am_R M r0 8))) (am_bd (fn10_cornersAt N M r0 (am_I M (am_R M r0 7) x2.toNatClampNeg) (am_I M (am_R M r0 8) x2.toNatClampNeg)) (fun v6 M7 => if v6 = (4 : Int32) then fn10_crosses_b38 N k4 x1 (1 : Int32) r0 x2 M7 else fn10_crosses_b38 N k4 x1 (0 : Int32) r0 x2 M7))))))
def fn10_crosses_b4 (N : Nat)  : Nat → Nat → Int32 → Int32 → am_Mem → Option (Int32 × am_Mem)
  | 0 => fun _ _ _ _ => none
  | i + 1 => fn10_crosses_b4B N (fn10_crosses_b4 N  i)
def fn10_crosses_b0 (N : Nat)  (r0 : Nat) (M : am_Mem) : Option (Int32 × am_Mem) :=
  fn10_crosses_b4 N  N r0 (0 : Int32) (0 : Int32) M
def fn10_crosses (N : Nat) (M : am_Mem) (r0 : Nat) : Option (Int32 × am_Mem) := fn10_crosses_b0 N r0 M
def rm10_crosses : Room := { frames := 2, cells := 0, slots := 0, locals := 47 }
set_option maxRecDepth 20000 in
theorem sn10_crosses_b40 {l : Launch} {G : am_G} {v : Int32} {M' : am_Mem} {N : Nat} {k4 : Nat → Int32 → Int32 → am_Mem → Option (Int32 × am_Mem)} (cx : am_Ctx l rm10_crosses yX10_crosses cX10_crosses 3 (some .int) (some (.inl v)) M' 0 0 G) (hk4 : ∀ (r0 : Nat) (x1 : Int32) (x2 : Int32) (M : am_Mem), k4 r0 x1 x2 M = some (v, M') → G 4 [(0, .inr (.inr (.inl r0))), (1, .inl x1), (2, .inl x2)] [] M 0 0) {r0 : Nat} {x1 : Int32} {x2 : Int32} {M : am_Mem} (hres : fn10_crosses_b40 N k4 r0 x1 x2 M = some (v, M')) : G 40 [(0, .inr (.inr (.inl r0))), (1, .inl x1), (2, .inl x2)] [] M 0 0 := by
  unfold fn10_crosses_b40 at hres
  refine am_iincw cx (lv' := [(0, .inr (.inr (.inl r0))), (1, .inl x1), (2, .inl (x2 + (1 : Int32)))]) (w := (1 : Int32)) 2 dX10_crosses_40 (by decide) rfl (Nat.le_of_ble_eq_true rfl) rfl ?_
  refine am_goto cx (tgt := 4) dX10_crosses_43 (by decide) ?_
  exact hk4 _ _ _ _ hres
set_option maxRecDepth 20000 in
theorem sn10_crosses_b38 {l : Launch} {G : am_G} {v : Int32} {M' : am_Mem} {N : Nat} {k4 : Nat → Int32 → Int32 → am_Mem → Option (Int32 × am_Mem)} (cx : am_Ctx l rm10_crosses yX10_crosses cX10_crosses 3 (some .int) (some (.inl v)) M' 0 0 G) (hk4 : ∀ (r0 : Nat) (x1 : Int32) (x2 : Int32) (M : am_Mem), k4 r0 x1 x2 M = some (v, M') → G 4 [(0, .inr (.inr (.inl r0))), (1, .inl x1), (2, .inl x2)] [] M 0 0) {a0 : Int32} {a1 : Int32} {r0 : Nat} {x2 : Int32} {M : am_Mem} (hres : fn10_crosses_b38 N k4 a0 a1 r0 x2 M = some (v, M')) : G 38 [(0, .inr (.inr (.inl r0))), (2, .inl x2)] [.inl a1, .inl a0] M 0 0 := by
  unfold fn10_crosses_b38 at hres
  refine am_iadd cx dX10_crosses_38 ?_
  refine am_istore_n cx (lv' := [(0, .inr (.inr (.inl r0))), (1, .inl (a0 + a1)), (2, .inl x2)]) dX10_crosses_39 (Nat.le_of_ble_eq_true rfl) rfl ?_
  exact sn10_crosses_b40 cx hk4 hres
set_option maxRecDepth 20000 in
theorem sn10_crosses_b4B {l : Launch} {G : am_G} {v : Int32} {M' : am_Mem} {N : Nat} {k4 : Nat → Int32 → Int32 → am_Mem → Option (Int32 × am_Mem)} (cx : am_Ctx l rm10_crosses yX10_crosses cX10_crosses 3 (some .int) (some (.inl v)) M' 0 0 G) (hk4 : ∀ (r0 : Nat) (x1 : Int32) (x2 : Int32) (M : am_Mem), k4 r0 x1 x2 M = some (v, M') → G 4 [(0, .inr (.inr (.inl r0))), (1, .inl x1), (2, .inl x2)] [] M 0 0) {r0 : Nat} {x1 : Int32} {x2 : Int32} {M : am_Mem} (hres : fn10_crosses_b4B N k4 r0 x1 x2 M = some (v, M')) : G 4 [(0, .inr (.inr (.inl r0))), (1, .inl x1), (2, .inl x2)] [] M 0 0 := by
  unfold fn10_crosses_b4B at hres
  refine am_iload_n cx 2 dX10_crosses_4 rfl ?_
  refine am_aload_n cx 0 dX10_crosses_5 rfl ?_
  obtain ⟨q1, hres⟩ := am_ck_some hres
  refine am_getI cx dX10_crosses_6 flX10_32 (am_ke q1) ?_
  refine am_icmp_ge cx (tgt := 46) dX10_crosses_9 (by decide) (fun h => ?_) (fun h => ?_)
  · have hres := am_ifp h hres
    refine am_iload_n cx 1 dX10_crosses_46 rfl ?_
    obtain ⟨rfl, rfl⟩ := am_fin hres
    exact am_iret cx dX10_crosses_47
  · have hres := am_ifn h hres
    refine am_iload_n cx 1 dX10_crosses_12 rfl ?_
    refine am_aload_n cx 0 dX10_crosses_13 rfl ?_
    refine am_aload_n cx 0 dX10_crosses_14 rfl ?_
    refine am_getR cx dX10_crosses_15 flX10_41 (am_ke q1) ?_
    refine am_iload_n cx 2 dX10_crosses_18 rfl ?_
    obtain ⟨q2, hres⟩ := am_ck_some hres
    obtain ⟨q3, hres⟩ := am_ck_some hres
    refine am_iald cx dX10_crosses_19 (am_ke q2) q3 ?_
    refine am_aload_n cx 0 dX10_crosses_20 rfl ?_
    refine am_getR cx dX10_crosses_21 flX10_45 (am_ke q1) ?_
    refine am_iload_n cx 2 dX10_crosses_24 rfl ?_
    obtain ⟨q4, hres⟩ := am_ck_some hres
    obtain ⟨q5, hres⟩ := am_ck_some hres
    refine am_iald cx dX10_crosses_25 (am_ke q4) q5 ?_
    obtain ⟨v6, M7, q8, hres⟩ := am_bd_some hres
    refine am_callV1 cx [.inl (am_I M (am_R M r0 7) x2.toNatClampNeg), .inl (am_I M (am_R M r0 8) x2.toNatClampNeg)] dX10_crosses_26 cvX10_75 (mt10_cornersAt q8) (am_ke q1) ⟨rfl, rfl, Nat.le_of_ble_eq_true rfl, Nat.le_of_ble_eq_true rfl⟩ rfl (Nat.le_of_ble_eq_true rfl) ⟨Nat.le_of_ble_eq_true rfl, Nat.le_of_ble_eq_true rfl⟩ ?_
    refine am_iconst cx (v := (4 : Int32)) dX10_crosses_29 (by decide) ?_
    refine am_icmp_ne cx (tgt := 37) dX10_crosses_30 (by decide) (fun h => ?_) (fun h => ?_)
    · have hres := am_ifn h hres
      refine am_iconst cx (v := (0 : Int32)) dX10_crosses_37 (by decide) ?_
      refine am_sub cx [0, 2] rfl ?_
      exact sn10_crosses_b38 cx hk4 hres
    · have hres := am_ifp h hres
      refine am_iconst cx (v := (1 : Int32)) dX10_crosses_33 (by decide) ?_
      refine am_goto cx (tgt := 38) dX10_crosses_34 (by decide) ?_
      refine am_sub cx [0, 2] rfl ?_
      exact sn10_crosses_b38 cx hk4 hres
set_option maxRecDepth 20000 in
theorem sn10_crosses_b4 {l : Launch} {G : am_G} {v : Int32} {M' : am_Mem} {N : Nat}  (cx : am_Ctx l rm10_crosses yX10_crosses cX10_crosses 3 (some .int) (some (.inl v)) M' 0 0 G)  (i : Nat) : ∀ (r0 : Nat) (x1 : Int32) (x2 : Int32) (M : am_Mem), fn10_crosses_b4 N  i r0 x1 x2 M = some (v, M') → G 4 [(0, .inr (.inr (.inl r0))), (1, .inl x1), (2, .inl x2)] [] M 0 0 := by
  induction i with
  | zero => intro r0 x1 x2 M hres; exact am_no hres
  | succ i ih => intro r0 x1 x2 M hres; exact sn10_crosses_b4B cx ih hres
set_option maxRecDepth 20000 in
theorem sn10_crosses_b0 {l : Launch} {G : am_G} {v : Int32} {M' : am_Mem} {N : Nat}  (cx : am_Ctx l rm10_crosses yX10_crosses cX10_crosses 3 (some .int) (some (.inl v)) M' 0 0 G)  {r0 : Nat} {M : am_Mem} (hres : fn10_crosses_b0 N  r0 M = some (v, M')) : G 0 [(0, .inr (.inr (.inl r0)))] [] M 0 0 := by
  unfold fn10_crosses_b0 at hres
  refine am_iconst cx (v := (0 : Int32)) dX10_crosses_0 (by decide) ?_
  refine am_istore_n cx (lv' := [(0, .inr (.inr (.inl r0))), (1, .inl (0 : Int32))]) dX10_crosses_1 (Nat.le_of_ble_eq_true rfl) rfl ?_
  refine am_iconst cx (v := (0 : Int32)) dX10_crosses_2 (by decide) ?_
  refine am_istore_n cx (lv' := [(0, .inr (.inr (.inl r0))), (1, .inl (0 : Int32)), (2, .inl (0 : Int32))]) dX10_crosses_3 (Nat.le_of_ble_eq_true rfl) rfl ?_
  exact sn10_crosses_b4 cx  N _ _ _ _ hres
set_option maxRecDepth 20000 in
theorem mt10_crosses {l : Launch} {v : Int32} {M M' : am_Mem} {N : Nat} {r0 : Nat} (h : fn10_crosses N M r0 = some (v, M')) : am_Met l yX10_crosses cX10_crosses 3 (some .int) rm10_crosses 0 0 [.inr (.inr (.inl r0))] M (some (.inl v)) M' := am_mk (by decide) (Nat.le_of_ble_eq_true rfl) (fun G cx => (sn10_crosses_b0 cx h))
-- SquareCuts.<init>
def fn11_init_b125 (N : Nat)   (M : am_Mem) : Option (Unit × am_Mem) :=
  some ((), M)
def fn11_init_b114 (N : Nat)  (r0 : Nat) (M : am_Mem) : Option (Unit × am_Mem) :=
  am_ck (am_k (am_new M 9 0) (am_n M + 1) 9) (am_bd (fn9_init (am_new M 9 0) (am_n M + 1)) (fun v2 M3 => am_ck (am_k M3 r0 11) (fn11_init_b125 N   (am_wR M3 r0 10 (am_n M + 1)))))
def fn11_init_b103 (N : Nat)  (r0 : Nat) (M : am_Mem) : Option (Unit × am_Mem) :=
  am_ck (am_k (am_new M 9 0) (am_n M + 1) 9) (am_bd (fn9_init (am_new M 9 0) (am_n M + 1)) (fun v2 M3 => am_ck (am_k M3 r0 11) (fn11_init_b114 N  r0 (am_wR M3 r0 9 (am_n M + 1)))))
def fn11_init_b92 (N : Nat)  (r0 : Nat) (M : am_Mem) : Option (Unit × am_Mem) :=
  am_ck (am_k (am_new M 9 0) (am_n M + 1) 9) (am_bd (fn9_init (am_new M 9 0) (am_n M + 1)) (fun v2 M3 => am_ck (am_k M3 r0 11) (fn11_init_b103 N  r0 (am_wR M3 r0 8 (am_n M + 1)))))
def fn11_init_b81 (N : Nat)  (r0 : Nat) (M : am_Mem) : Option (Unit × am_Mem) :=
  am_ck (am_k (am_new M 7 0) (am_n M + 1) 7) (am_bd (fn7_init (am_new M 7 0) (am_n M + 1)) (fun v2 M3 => am_ck (am_k M3 r0 11) (fn11_init_b92 N  r0 (am_wR M3 r0 7 (am_n M + 1)))))
def fn11_init_b70 (N : Nat)  (r0 : Nat) (M : am_Mem) : Option (Unit × am_Mem) :=
  am_ck (am_k (am_new M 2 0) (am_n M + 1) 2) (am_bd (fn2_init (am_new M 2 0) (am_n M + 1)) (fun v2 M3 => am_ck (am_k M3 r0 11) (fn11_init_b81 N  r0 (am_wR M3 r0 6 (am_n M + 1)))))
def fn11_init_b59 (N : Nat)  (r0 : Nat) (M : am_Mem) : Option (Unit × am_Mem) :=
  am_ck (am_k (am_new M 0 0) (am_n M + 1) 0) (am_bd (fn0_init (am_new M 0 0) (am_n M + 1)) (fun v2 M3 => am_ck (am_k M3 r0 11) (fn11_init_b70 N  r0 (am_wR M3 r0 5 (am_n M + 1)))))
def fn11_init_b48 (N : Nat)  (r0 : Nat) (M : am_Mem) : Option (Unit × am_Mem) :=
  am_ck (am_k (am_new M 0 0) (am_n M + 1) 0) (am_bd (fn0_init (am_new M 0 0) (am_n M + 1)) (fun v2 M3 => am_ck (am_k M3 r0 11) (fn11_init_b59 N  r0 (am_wR M3 r0 4 (am_n M + 1)))))
def fn11_init_b37 (N : Nat)  (r0 : Nat) (M : am_Mem) : Option (Unit × am_Mem) :=
  am_ck (am_k (am_new M 4 0) (am_n M + 1) 4) (am_bd (fn4_init N (am_new M 4 0) (am_n M + 1)) (fun v2 M3 => am_ck (am_k M3 r0 11) (fn11_init_b48 N  r0 (am_wR M3 r0 3 (am_n M + 1)))))
def fn11_init_b26 (N : Nat)  (r0 : Nat) (M : am_Mem) : Option (Unit × am_Mem) :=
  am_ck (am_k (am_new M 5 0) (am_n M + 1) 5) (am_bd (fn5_init (am_new M 5 0) (am_n M + 1)) (fun v2 M3 => am_ck (am_k M3 r0 11) (fn11_init_b37 N  r0 (am_wR M3 r0 2 (am_n M + 1)))))
def fn11_init_b15 (N : Nat)  (r0 : Nat) (M : am_Mem) : Option (Unit × am_Mem) :=
  am_ck (am_k (am_new M 1 0) (am_n M + 1) 1) (am_bd (fn1_init (am_new M 1 0) (am_n M + 1)) (fun v2 M3 => am_ck (am_k M3 r0 11) (fn11_init_b26 N  r0 (am_wR M3 r0 1 (am_n M + 1)))))
def fn11_init_b0 (N : Nat)  (r0 : Nat) (M : am_Mem) : Option (Unit × am_Mem) :=
  am_ck (am_k M r0 11) (am_ck (am_k (am_new M 8 0) (am_n M + 1) 8) (am_bd (fn8_init (am_new M 8 0) (am_n M + 1)) (fun v3 M4 => am_ck (am_k M4 r0 11) (fn11_init_b15 N  r0 (am_wR M4 r0 0 (am_n M + 1))))))
def fn11_init (N : Nat) (M : am_Mem) (r0 : Nat) : Option (Unit × am_Mem) := fn11_init_b0 N r0 M
def rm11_init : Room := { frames := 3, cells := 111, slots := 3223, locals := 62 }
set_option maxRecDepth 20000 in
theorem sn11_init_b125 {l : Launch} {G : am_G} {M' : am_Mem} {N : Nat}  (cx : am_Ctx l rm11_init yX11_init cX11_init 1 none none M' 111 3223 G)   {M : am_Mem} (hres : fn11_init_b125 N   M = some ((), M')) : G 125 [] [] M 111 3223 := by
  unfold fn11_init_b125 at hres
  obtain ⟨-, rfl⟩ := am_fin hres
  exact am_vret cx dX11_init_125
set_option maxRecDepth 20000 in
theorem sn11_init_b114 {l : Launch} {G : am_G} {M' : am_Mem} {N : Nat}  (cx : am_Ctx l rm11_init yX11_init cX11_init 1 none none M' 111 3223 G)  {r0 : Nat} {M : am_Mem} (hres : fn11_init_b114 N  r0 M = some ((), M')) : G 114 [(0, .inr (.inr (.inl r0)))] [] M 109 3208 := by
  unfold fn11_init_b114 at hres
  refine am_aload_n cx 0 dX11_init_114 rfl ?_
  refine am_newO cx dX11_init_115 nwX11_63 (Nat.le_of_ble_eq_true rfl) (Nat.le_of_ble_eq_true rfl) ?_
  refine am_dup cx dX11_init_118 rfl ?_
  obtain ⟨q1, hres⟩ := am_ck_some hres
  obtain ⟨v2, M3, q4, hres⟩ := am_bd_some hres
  refine am_callIN0 cx [] dX11_init_119 ciX11_65 (mt9_init q4) (by rw [show am_K _ _ = 9 from (am_ke q1)]; decide) ⟨rfl, rfl, Nat.le_of_ble_eq_true rfl, Nat.le_of_ble_eq_true rfl⟩ rfl (Nat.le_of_ble_eq_true rfl) ⟨Nat.le_of_ble_eq_true rfl, Nat.le_of_ble_eq_true rfl⟩ ?_
  obtain ⟨q5, hres⟩ := am_ck_some hres
  refine am_putR cx dX11_init_122 fpX11_73 (fun _ => rfl) (Or.inl ⟨_, rfl⟩) (am_ke q5) ?_
  refine am_sub cx [] rfl ?_
  exact sn11_init_b125 cx  hres
set_option maxRecDepth 20000 in
theorem sn11_init_b103 {l : Launch} {G : am_G} {M' : am_Mem} {N : Nat}  (cx : am_Ctx l rm11_init yX11_init cX11_init 1 none none M' 111 3223 G)  {r0 : Nat} {M : am_Mem} (hres : fn11_init_b103 N  r0 M = some ((), M')) : G 103 [(0, .inr (.inr (.inl r0)))] [] M 107 3193 := by
  unfold fn11_init_b103 at hres
  refine am_aload_n cx 0 dX11_init_103 rfl ?_
  refine am_newO cx dX11_init_104 nwX11_63 (Nat.le_of_ble_eq_true rfl) (Nat.le_of_ble_eq_true rfl) ?_
  refine am_dup cx dX11_init_107 rfl ?_
  obtain ⟨q1, hres⟩ := am_ck_some hres
  obtain ⟨v2, M3, q4, hres⟩ := am_bd_some hres
  refine am_callIN0 cx [] dX11_init_108 ciX11_65 (mt9_init q4) (by rw [show am_K _ _ = 9 from (am_ke q1)]; decide) ⟨rfl, rfl, Nat.le_of_ble_eq_true rfl, Nat.le_of_ble_eq_true rfl⟩ rfl (Nat.le_of_ble_eq_true rfl) ⟨Nat.le_of_ble_eq_true rfl, Nat.le_of_ble_eq_true rfl⟩ ?_
  obtain ⟨q5, hres⟩ := am_ck_some hres
  refine am_putR cx dX11_init_111 fpX11_70 (fun _ => rfl) (Or.inl ⟨_, rfl⟩) (am_ke q5) ?_
  exact sn11_init_b114 cx  hres
set_option maxRecDepth 20000 in
theorem sn11_init_b92 {l : Launch} {G : am_G} {M' : am_Mem} {N : Nat}  (cx : am_Ctx l rm11_init yX11_init cX11_init 1 none none M' 111 3223 G)  {r0 : Nat} {M : am_Mem} (hres : fn11_init_b92 N  r0 M = some ((), M')) : G 92 [(0, .inr (.inr (.inl r0)))] [] M 105 3178 := by
  unfold fn11_init_b92 at hres
  refine am_aload_n cx 0 dX11_init_92 rfl ?_
  refine am_newO cx dX11_init_93 nwX11_63 (Nat.le_of_ble_eq_true rfl) (Nat.le_of_ble_eq_true rfl) ?_
  refine am_dup cx dX11_init_96 rfl ?_
  obtain ⟨q1, hres⟩ := am_ck_some hres
  obtain ⟨v2, M3, q4, hres⟩ := am_bd_some hres
  refine am_callIN0 cx [] dX11_init_97 ciX11_65 (mt9_init q4) (by rw [show am_K _ _ = 9 from (am_ke q1)]; decide) ⟨rfl, rfl, Nat.le_of_ble_eq_true rfl, Nat.le_of_ble_eq_true rfl⟩ rfl (Nat.le_of_ble_eq_true rfl) ⟨Nat.le_of_ble_eq_true rfl, Nat.le_of_ble_eq_true rfl⟩ ?_
  obtain ⟨q5, hres⟩ := am_ck_some hres
  refine am_putR cx dX11_init_100 fpX11_66 (fun _ => rfl) (Or.inl ⟨_, rfl⟩) (am_ke q5) ?_
  exact sn11_init_b103 cx  hres
set_option maxRecDepth 20000 in
theorem sn11_init_b81 {l : Launch} {G : am_G} {M' : am_Mem} {N : Nat}  (cx : am_Ctx l rm11_init yX11_init cX11_init 1 none none M' 111 3223 G)  {r0 : Nat} {M : am_Mem} (hres : fn11_init_b81 N  r0 M = some ((), M')) : G 81 [(0, .inr (.inr (.inl r0)))] [] M 103 2696 := by
  unfold fn11_init_b81 at hres
  refine am_aload_n cx 0 dX11_init_81 rfl ?_
  refine am_newO cx dX11_init_82 nwX11_56 (Nat.le_of_ble_eq_true rfl) (Nat.le_of_ble_eq_true rfl) ?_
  refine am_dup cx dX11_init_85 rfl ?_
  obtain ⟨q1, hres⟩ := am_ck_some hres
  obtain ⟨v2, M3, q4, hres⟩ := am_bd_some hres
  refine am_callIN0 cx [] dX11_init_86 ciX11_58 (mt7_init q4) (by rw [show am_K _ _ = 7 from (am_ke q1)]; decide) ⟨rfl, rfl, Nat.le_of_ble_eq_true rfl, Nat.le_of_ble_eq_true rfl⟩ rfl (Nat.le_of_ble_eq_true rfl) ⟨Nat.le_of_ble_eq_true rfl, Nat.le_of_ble_eq_true rfl⟩ ?_
  obtain ⟨q5, hres⟩ := am_ck_some hres
  refine am_putR cx dX11_init_89 fpX11_59 (fun _ => rfl) (Or.inl ⟨_, rfl⟩) (am_ke q5) ?_
  exact sn11_init_b92 cx  hres
set_option maxRecDepth 20000 in
theorem sn11_init_b70 {l : Launch} {G : am_G} {M' : am_Mem} {N : Nat}  (cx : am_Ctx l rm11_init yX11_init cX11_init 1 none none M' 111 3223 G)  {r0 : Nat} {M : am_Mem} (hres : fn11_init_b70 N  r0 M = some ((), M')) : G 70 [(0, .inr (.inr (.inl r0)))] [] M 98 2370 := by
  unfold fn11_init_b70 at hres
  refine am_aload_n cx 0 dX11_init_70 rfl ?_
  refine am_newO cx dX11_init_71 nwX11_49 (Nat.le_of_ble_eq_true rfl) (Nat.le_of_ble_eq_true rfl) ?_
  refine am_dup cx dX11_init_74 rfl ?_
  obtain ⟨q1, hres⟩ := am_ck_some hres
  obtain ⟨v2, M3, q4, hres⟩ := am_bd_some hres
  refine am_callIN0 cx [] dX11_init_75 ciX11_51 (mt2_init q4) (by rw [show am_K _ _ = 2 from (am_ke q1)]; decide) ⟨rfl, rfl, Nat.le_of_ble_eq_true rfl, Nat.le_of_ble_eq_true rfl⟩ rfl (Nat.le_of_ble_eq_true rfl) ⟨Nat.le_of_ble_eq_true rfl, Nat.le_of_ble_eq_true rfl⟩ ?_
  obtain ⟨q5, hres⟩ := am_ck_some hres
  refine am_putR cx dX11_init_78 fpX11_52 (fun _ => rfl) (Or.inl ⟨_, rfl⟩) (am_ke q5) ?_
  exact sn11_init_b81 cx  hres
set_option maxRecDepth 20000 in
theorem sn11_init_b59 {l : Launch} {G : am_G} {M' : am_Mem} {N : Nat}  (cx : am_Ctx l rm11_init yX11_init cX11_init 1 none none M' 111 3223 G)  {r0 : Nat} {M : am_Mem} (hres : fn11_init_b59 N  r0 M = some ((), M')) : G 59 [(0, .inr (.inr (.inl r0)))] [] M 94 2244 := by
  unfold fn11_init_b59 at hres
  refine am_aload_n cx 0 dX11_init_59 rfl ?_
  refine am_newO cx dX11_init_60 nwX11_39 (Nat.le_of_ble_eq_true rfl) (Nat.le_of_ble_eq_true rfl) ?_
  refine am_dup cx dX11_init_63 rfl ?_
  obtain ⟨q1, hres⟩ := am_ck_some hres
  obtain ⟨v2, M3, q4, hres⟩ := am_bd_some hres
  refine am_callIN0 cx [] dX11_init_64 ciX11_41 (mt0_init q4) (by rw [show am_K _ _ = 0 from (am_ke q1)]; decide) ⟨rfl, rfl, Nat.le_of_ble_eq_true rfl, Nat.le_of_ble_eq_true rfl⟩ rfl (Nat.le_of_ble_eq_true rfl) ⟨Nat.le_of_ble_eq_true rfl, Nat.le_of_ble_eq_true rfl⟩ ?_
  obtain ⟨q5, hres⟩ := am_ck_some hres
  refine am_putR cx dX11_init_67 fpX11_46 (fun _ => rfl) (Or.inl ⟨_, rfl⟩) (am_ke q5) ?_
  exact sn11_init_b70 cx  hres
set_option maxRecDepth 20000 in
theorem sn11_init_b48 {l : Launch} {G : am_G} {M' : am_Mem} {N : Nat}  (cx : am_Ctx l rm11_init yX11_init cX11_init 1 none none M' 111 3223 G)  {r0 : Nat} {M : am_Mem} (hres : fn11_init_b48 N  r0 M = some ((), M')) : G 48 [(0, .inr (.inr (.inl r0)))] [] M 90 2118 := by
  unfold fn11_init_b48 at hres
  refine am_aload_n cx 0 dX11_init_48 rfl ?_
  refine am_newO cx dX11_init_49 nwX11_39 (Nat.le_of_ble_eq_true rfl) (Nat.le_of_ble_eq_true rfl) ?_
  refine am_dup cx dX11_init_52 rfl ?_
  obtain ⟨q1, hres⟩ := am_ck_some hres
  obtain ⟨v2, M3, q4, hres⟩ := am_bd_some hres
  refine am_callIN0 cx [] dX11_init_53 ciX11_41 (mt0_init q4) (by rw [show am_K _ _ = 0 from (am_ke q1)]; decide) ⟨rfl, rfl, Nat.le_of_ble_eq_true rfl, Nat.le_of_ble_eq_true rfl⟩ rfl (Nat.le_of_ble_eq_true rfl) ⟨Nat.le_of_ble_eq_true rfl, Nat.le_of_ble_eq_true rfl⟩ ?_
  obtain ⟨q5, hres⟩ := am_ck_some hres
  refine am_putR cx dX11_init_56 fpX11_42 (fun _ => rfl) (Or.inl ⟨_, rfl⟩) (am_ke q5) ?_
  exact sn11_init_b59 cx  hres
set_option maxRecDepth 20000 in
theorem sn11_init_b37 {l : Launch} {G : am_G} {M' : am_Mem} {N : Nat}  (cx : am_Ctx l rm11_init yX11_init cX11_init 1 none none M' 111 3223 G)  {r0 : Nat} {M : am_Mem} (hres : fn11_init_b37 N  r0 M = some ((), M')) : G 37 [(0, .inr (.inr (.inl r0)))] [] M 37 1192 := by
  unfold fn11_init_b37 at hres
  refine am_aload_n cx 0 dX11_init_37 rfl ?_
  refine am_newO cx dX11_init_38 nwX11_32 (Nat.le_of_ble_eq_true rfl) (Nat.le_of_ble_eq_true rfl) ?_
  refine am_dup cx dX11_init_41 rfl ?_
  obtain ⟨q1, hres⟩ := am_ck_some hres
  obtain ⟨v2, M3, q4, hres⟩ := am_bd_some hres
  refine am_callI0 cx [] dX11_init_42 ciX11_34 (mt4_init q4) (by rw [show am_K _ _ = 4 from (am_ke q1)]; decide) ⟨rfl, rfl, Nat.le_of_ble_eq_true rfl, Nat.le_of_ble_eq_true rfl⟩ rfl (Nat.le_of_ble_eq_true rfl) ⟨Nat.le_of_ble_eq_true rfl, Nat.le_of_ble_eq_true rfl⟩ ?_
  obtain ⟨q5, hres⟩ := am_ck_some hres
  refine am_putR cx dX11_init_45 fpX11_35 (fun _ => rfl) (Or.inl ⟨_, rfl⟩) (am_ke q5) ?_
  exact sn11_init_b48 cx  hres
set_option maxRecDepth 20000 in
theorem sn11_init_b26 {l : Launch} {G : am_G} {M' : am_Mem} {N : Nat}  (cx : am_Ctx l rm11_init yX11_init cX11_init 1 none none M' 111 3223 G)  {r0 : Nat} {M : am_Mem} (hres : fn11_init_b26 N  r0 M = some ((), M')) : G 26 [(0, .inr (.inr (.inl r0)))] [] M 23 1047 := by
  unfold fn11_init_b26 at hres
  refine am_aload_n cx 0 dX11_init_26 rfl ?_
  refine am_newO cx dX11_init_27 nwX11_25 (Nat.le_of_ble_eq_true rfl) (Nat.le_of_ble_eq_true rfl) ?_
  refine am_dup cx dX11_init_30 rfl ?_
  obtain ⟨q1, hres⟩ := am_ck_some hres
  obtain ⟨v2, M3, q4, hres⟩ := am_bd_some hres
  refine am_callIN0 cx [] dX11_init_31 ciX11_27 (mt5_init q4) (by rw [show am_K _ _ = 5 from (am_ke q1)]; decide) ⟨rfl, rfl, Nat.le_of_ble_eq_true rfl, Nat.le_of_ble_eq_true rfl⟩ rfl (Nat.le_of_ble_eq_true rfl) ⟨Nat.le_of_ble_eq_true rfl, Nat.le_of_ble_eq_true rfl⟩ ?_
  obtain ⟨q5, hres⟩ := am_ck_some hres
  refine am_putR cx dX11_init_34 fpX11_28 (fun _ => rfl) (Or.inl ⟨_, rfl⟩) (am_ke q5) ?_
  exact sn11_init_b37 cx  hres
set_option maxRecDepth 20000 in
theorem sn11_init_b15 {l : Launch} {G : am_G} {M' : am_Mem} {N : Nat}  (cx : am_Ctx l rm11_init yX11_init cX11_init 1 none none M' 111 3223 G)  {r0 : Nat} {M : am_Mem} (hres : fn11_init_b15 N  r0 M = some ((), M')) : G 15 [(0, .inr (.inr (.inl r0)))] [] M 19 991 := by
  unfold fn11_init_b15 at hres
  refine am_aload_n cx 0 dX11_init_15 rfl ?_
  refine am_newO cx dX11_init_16 nwX11_18 (Nat.le_of_ble_eq_true rfl) (Nat.le_of_ble_eq_true rfl) ?_
  refine am_dup cx dX11_init_19 rfl ?_
  obtain ⟨q1, hres⟩ := am_ck_some hres
  obtain ⟨v2, M3, q4, hres⟩ := am_bd_some hres
  refine am_callIN0 cx [] dX11_init_20 ciX11_20 (mt1_init q4) (by rw [show am_K _ _ = 1 from (am_ke q1)]; decide) ⟨rfl, rfl, Nat.le_of_ble_eq_true rfl, Nat.le_of_ble_eq_true rfl⟩ rfl (Nat.le_of_ble_eq_true rfl) ⟨Nat.le_of_ble_eq_true rfl, Nat.le_of_ble_eq_true rfl⟩ ?_
  obtain ⟨q5, hres⟩ := am_ck_some hres
  refine am_putR cx dX11_init_23 fpX11_21 (fun _ => rfl) (Or.inl ⟨_, rfl⟩) (am_ke q5) ?_
  exact sn11_init_b26 cx  hres
set_option maxRecDepth 20000 in
theorem sn11_init_b0 {l : Launch} {G : am_G} {M' : am_Mem} {N : Nat}  (cx : am_Ctx l rm11_init yX11_init cX11_init 1 none none M' 111 3223 G)  {r0 : Nat} {M : am_Mem} (hres : fn11_init_b0 N  r0 M = some ((), M')) : G 0 [(0, .inr (.inr (.inl r0)))] [] M 0 0 := by
  unfold fn11_init_b0 at hres
  refine am_aload_n cx 0 dX11_init_0 rfl ?_
  obtain ⟨q1, hres⟩ := am_ck_some hres
  refine am_objInit cx dX11_init_1 aw_1_30 aw_1_31 aw_1_32 (by rw [show am_K _ _ = 11 from (am_ke q1)]; decide) (Nat.le_of_ble_eq_true rfl) (Nat.le_of_ble_eq_true rfl) ?_
  refine am_aload_n cx 0 dX11_init_4 rfl ?_
  refine am_newO cx dX11_init_5 nwX11_9 (Nat.le_of_ble_eq_true rfl) (Nat.le_of_ble_eq_true rfl) ?_
  refine am_dup cx dX11_init_8 rfl ?_
  obtain ⟨q2, hres⟩ := am_ck_some hres
  obtain ⟨v3, M4, q5, hres⟩ := am_bd_some hres
  refine am_callIN0 cx [] dX11_init_9 ciX11_11 (mt8_init q5) (by rw [show am_K _ _ = 8 from (am_ke q2)]; decide) ⟨rfl, rfl, Nat.le_of_ble_eq_true rfl, Nat.le_of_ble_eq_true rfl⟩ rfl (Nat.le_of_ble_eq_true rfl) ⟨Nat.le_of_ble_eq_true rfl, Nat.le_of_ble_eq_true rfl⟩ ?_
  obtain ⟨q6, hres⟩ := am_ck_some hres
  refine am_putR cx dX11_init_12 fpX11_12 (fun _ => rfl) (Or.inl ⟨_, rfl⟩) (am_ke q6) ?_
  exact sn11_init_b15 cx  hres
set_option maxRecDepth 20000 in
theorem mt11_init {l : Launch} {M M' : am_Mem} {N : Nat} {r0 : Nat} (h : fn11_init N M r0 = some ((), M')) : am_Met l yX11_init cX11_init 1 none rm11_init 111 3223 [.inr (.inr (.inl r0))] M none M' := am_mk (by decide) (Nat.le_of_ble_eq_true rfl) (fun G cx => (sn11_init_b0 cx h))
-- SquareCuts.rect
def fn11_rect_b23 (N : Nat)   (M : am_Mem) : Option (Int32 × am_Mem) :=
  some ((-1 : Int32), M)
def fn11_rect_b111 (N : Nat)  (a0 : Int32) (M : am_Mem) : Option (Int32 × am_Mem) :=
  some (a0, M)
def fn11_rect_b124 (N : Nat)  (a0 : Int32) (M : am_Mem) : Option (Int32 × am_Mem) :=
  some (a0, M)
def fn11_rect_b0 (N : Nat)  (r0 : Nat) (x1 : Int32) (x2 : Int32) (M : am_Mem) : Option (Int32 × am_Mem) :=
  am_ck (am_k M r0 11) (am_ck (am_k M (am_R M r0 8) 9) (am_bd (fn9_find M (am_R M r0 8) x1) (fun v3 M4 => if v3 = 0 then fn11_rect_b23 N   M4 else if x2 < 0 then fn11_rect_b23 N   M4 else if x2 ≤ (7 : Int32) then if x2 = (7 : Int32) then am_ck (am_k M4 v3 10) (some ((am_I M4 v3 0), M4)) else am_ck (am_k M4 v3 10) (if (am_I M4 v3 1) = 0 then if x2 = (0 : Int32) then (some ((am_I M4 v3 4), M4)) else (if x2 = (1 : Int32) then (some ((am_I M4 v3 5), M4)) else (if x2 = (2 : Int32) then (some ((am_I M4 v3 6), M4)) else (if x2 = (3 : Int32) then (am_bd (fn10_isPerfect N M4 v3) (fun v11 M12 => if v11 = 0 then fn11_rect_b111 N  (0 : Int32) M12 else fn11_rect_b111 N  (1 : Int32) M12)) else (if x2 = (4 : Int32) then (am_bd (fn10_parts N M4 v3) (fun v15 M16 => if v15 = 0 then fn11_rect_b124 N  (1 : Int32) M16 else fn11_rect_b124 N  (0 : Int32) M16)) else (if x2 = (5 : Int32) then (am_bd (fn10_parts N M4 v3) (fun v19 M20 => some (v19, M20))) else (am_bd (fn10_crosses N M4 v3) (fun v22 M23 => some (v22, M23)))))))) else some ((-2 : Int32), M4)) else fn11_rect_b23 N   M4)))
def fn11_rect (N : Nat) (M : am_Mem) (r0 : Nat) (x1 : Int32) (x2 : Int32) : Option (Int32 × am_Mem) := fn11_rect_b0 N r0 x1 x2 M
def rm11_rect : Room := { frames := 3, cells := 0, slots := 0, locals := 73 }
set_option maxRecDepth 20000 in
theorem sn11_rect_b23 {l : Launch} {G : am_G} {v : Int32} {M' : am_Mem} {N : Nat}  (cx : am_Ctx l rm11_rect yX11_rect cX11_rect 4 (some .int) (some (.inl v)) M' 0 0 G)   {M : am_Mem} (hres : fn11_rect_b23 N   M = some (v, M')) : G 23 [] [] M 0 0 := by
  unfold fn11_rect_b23 at hres
  refine am_iconst cx (v := (-1 : Int32)) dX11_rect_23 (by decide) ?_
  obtain ⟨rfl, rfl⟩ := am_fin hres
  exact am_iret cx dX11_rect_24
set_option maxRecDepth 20000 in
theorem sn11_rect_b111 {l : Launch} {G : am_G} {v : Int32} {M' : am_Mem} {N : Nat}  (cx : am_Ctx l rm11_rect yX11_rect cX11_rect 4 (some .int) (some (.inl v)) M' 0 0 G)  {a0 : Int32} {M : am_Mem} (hres : fn11_rect_b111 N  a0 M = some (v, M')) : G 111 [] [.inl a0] M 0 0 := by
  unfold fn11_rect_b111 at hres
  obtain ⟨rfl, rfl⟩ := am_fin hres
  exact am_iret cx dX11_rect_111
set_option maxRecDepth 20000 in
theorem sn11_rect_b124 {l : Launch} {G : am_G} {v : Int32} {M' : am_Mem} {N : Nat}  (cx : am_Ctx l rm11_rect yX11_rect cX11_rect 4 (some .int) (some (.inl v)) M' 0 0 G)  {a0 : Int32} {M : am_Mem} (hres : fn11_rect_b124 N  a0 M = some (v, M')) : G 124 [] [.inl a0] M 0 0 := by
  unfold fn11_rect_b124 at hres
  obtain ⟨rfl, rfl⟩ := am_fin hres
  exact am_iret cx dX11_rect_124
set_option maxRecDepth 20000 in
theorem sn11_rect_b0 {l : Launch} {G : am_G} {v : Int32} {M' : am_Mem} {N : Nat}  (cx : am_Ctx l rm11_rect yX11_rect cX11_rect 4 (some .int) (some (.inl v)) M' 0 0 G)  {r0 : Nat} {x1 : Int32} {x2 : Int32} {M : am_Mem} (hres : fn11_rect_b0 N  r0 x1 x2 M = some (v, M')) : G 0 [(0, .inr (.inr (.inl r0))), (1, .inl x1), (2, .inl x2)] [] M 0 0 := by
  unfold fn11_rect_b0 at hres
  refine am_aload_n cx 0 dX11_rect_0 rfl ?_
  obtain ⟨q1, hres⟩ := am_ck_some hres
  refine am_getR cx dX11_rect_1 flX11_66 (am_ke q1) ?_
  refine am_iload_n cx 1 dX11_rect_4 rfl ?_
  obtain ⟨q2, hres⟩ := am_ck_some hres
  obtain ⟨v3, M4, q5, hres⟩ := am_bd_some hres
  refine am_callV1 cx [.inl x1] dX11_rect_5 cvX11_115 (mt9_find q5) (am_ke q2) ⟨rfl, rfl, Nat.le_of_ble_eq_true rfl, Nat.le_of_ble_eq_true rfl⟩ rfl (Nat.le_of_ble_eq_true rfl) ⟨Nat.le_of_ble_eq_true rfl, Nat.le_of_ble_eq_true rfl⟩ ?_
  refine am_astore_n cx (lv' := [(0, .inr (.inr (.inl r0))), (1, .inl x1), (2, .inl x2), (3, .inr (.inr (.inl v3)))]) dX11_rect_8 (Nat.le_of_ble_eq_true rfl) rfl ?_
  refine am_aload_n cx 3 dX11_rect_9 rfl ?_
  refine am_ifnull cx (tgt := 23) dX11_rect_10 (by decide) (fun h => ?_) (fun h => ?_)
  · have hres := am_ifp h hres
    refine am_sub cx [] rfl ?_
    exact sn11_rect_b23 cx  hres
  · have hres := am_ifn h hres
    refine am_iload_n cx 2 dX11_rect_13 rfl ?_
    refine am_if_lt cx (tgt := 23) dX11_rect_14 (by decide) (fun h => ?_) (fun h => ?_)
    · have hres := am_ifp h hres
      refine am_sub cx [] rfl ?_
      exact sn11_rect_b23 cx  hres
    · have hres := am_ifn h hres
      refine am_iload_n cx 2 dX11_rect_17 rfl ?_
      refine am_bipush cx (v := (7 : Int32)) dX11_rect_18 (by decide) ?_
      refine am_icmp_le cx (tgt := 25) dX11_rect_20 (by decide) (fun h => ?_) (fun h => ?_)
      · have hres := am_ifp h hres
        refine am_iload_n cx 2 dX11_rect_25 rfl ?_
        refine am_bipush cx (v := (7 : Int32)) dX11_rect_26 (by decide) ?_
        refine am_icmp_ne cx (tgt := 36) dX11_rect_28 (by decide) (fun h => ?_) (fun h => ?_)
        · have hres := am_ifn h hres
          refine am_aload_n cx 3 dX11_rect_36 rfl ?_
          obtain ⟨q6, hres⟩ := am_ck_some hres
          refine am_getI cx dX11_rect_37 flX11_123 (am_ke q6) ?_
          refine am_if_eq cx (tgt := 46) dX11_rect_40 (by decide) (fun h => ?_) (fun h => ?_)
          · have hres := am_ifp h hres
            refine am_iload_n cx 2 dX11_rect_46 rfl ?_
            by_cases w7 : x2 = (0 : Int32)
            · refine am_tableIn cx (tgt := 84) (off := 37) dX11_rect_47 (by rw [w7]; decide) (by rw [w7]; decide) (by rw [w7]; decide) (by decide) ?_
              have hres := am_ifp w7 hres
              refine am_aload_n cx 3 dX11_rect_84 rfl ?_
              refine am_getI cx dX11_rect_85 flX11_127 (am_ke q6) ?_
              obtain ⟨rfl, rfl⟩ := am_fin hres
              exact am_iret cx dX11_rect_88
            have hres := am_ifn w7 hres
            by_cases w8 : x2 = (1 : Int32)
            · refine am_tableIn cx (tgt := 89) (off := 42) dX11_rect_47 (by rw [w8]; decide) (by rw [w8]; decide) (by rw [w8]; decide) (by decide) ?_
              have hres := am_ifp w8 hres
              refine am_aload_n cx 3 dX11_rect_89 rfl ?_
              refine am_getI cx dX11_rect_90 flX11_130 (am_ke q6) ?_
              obtain ⟨rfl, rfl⟩ := am_fin hres
              exact am_iret cx dX11_rect_93
            have hres := am_ifn w8 hres
            by_cases w9 : x2 = (2 : Int32)
            · refine am_tableIn cx (tgt := 94) (off := 47) dX11_rect_47 (by rw [w9]; decide) (by rw [w9]; decide) (by rw [w9]; decide) (by decide) ?_
              have hres := am_ifp w9 hres
              refine am_aload_n cx 3 dX11_rect_94 rfl ?_
              refine am_getI cx dX11_rect_95 flX11_133 (am_ke q6) ?_
              obtain ⟨rfl, rfl⟩ := am_fin hres
              exact am_iret cx dX11_rect_98
            have hres := am_ifn w9 hres
            by_cases w10 : x2 = (3 : Int32)
            · refine am_tableIn cx (tgt := 99) (off := 52) dX11_rect_47 (by rw [w10]; decide) (by rw [w10]; decide) (by rw [w10]; decide) (by decide) ?_
              have hres := am_ifp w10 hres
              refine am_aload_n cx 3 dX11_rect_99 rfl ?_
              obtain ⟨v11, M12, q13, hres⟩ := am_bd_some hres
              refine am_callV1 cx [] dX11_rect_100 cvX11_136 (mt10_isPerfect q13) (am_ke q6) ⟨rfl, rfl, Nat.le_of_ble_eq_true rfl, Nat.le_of_ble_eq_true rfl⟩ rfl (Nat.le_of_ble_eq_true rfl) ⟨Nat.le_of_ble_eq_true rfl, Nat.le_of_ble_eq_true rfl⟩ ?_
              refine am_if_eq cx (tgt := 110) dX11_rect_103 (by decide) (fun h => ?_) (fun h => ?_)
              · have hres := am_ifp h hres
                refine am_iconst cx (v := (0 : Int32)) dX11_rect_110 (by decide) ?_
                refine am_sub cx [] rfl ?_
                exact sn11_rect_b111 cx  hres
              · have hres := am_ifn h hres
                refine am_iconst cx (v := (1 : Int32)) dX11_rect_106 (by decide) ?_
                refine am_goto cx (tgt := 111) dX11_rect_107 (by decide) ?_
                refine am_sub cx [] rfl ?_
                exact sn11_rect_b111 cx  hres
            have hres := am_ifn w10 hres
            by_cases w14 : x2 = (4 : Int32)
            · refine am_tableIn cx (tgt := 112) (off := 65) dX11_rect_47 (by rw [w14]; decide) (by rw [w14]; decide) (by rw [w14]; decide) (by decide) ?_
              have hres := am_ifp w14 hres
              refine am_aload_n cx 3 dX11_rect_112 rfl ?_
              obtain ⟨v15, M16, q17, hres⟩ := am_bd_some hres
              refine am_callV1 cx [] dX11_rect_113 cvX11_140 (mt10_parts q17) (am_ke q6) ⟨rfl, rfl, Nat.le_of_ble_eq_true rfl, Nat.le_of_ble_eq_true rfl⟩ rfl (Nat.le_of_ble_eq_true rfl) ⟨Nat.le_of_ble_eq_true rfl, Nat.le_of_ble_eq_true rfl⟩ ?_
              refine am_if_ne cx (tgt := 123) dX11_rect_116 (by decide) (fun h => ?_) (fun h => ?_)
              · have hres := am_ifn h hres
                refine am_iconst cx (v := (0 : Int32)) dX11_rect_123 (by decide) ?_
                refine am_sub cx [] rfl ?_
                exact sn11_rect_b124 cx  hres
              · have hres := am_ifp h hres
                refine am_iconst cx (v := (1 : Int32)) dX11_rect_119 (by decide) ?_
                refine am_goto cx (tgt := 124) dX11_rect_120 (by decide) ?_
                refine am_sub cx [] rfl ?_
                exact sn11_rect_b124 cx  hres
            have hres := am_ifn w14 hres
            by_cases w18 : x2 = (5 : Int32)
            · refine am_tableIn cx (tgt := 125) (off := 78) dX11_rect_47 (by rw [w18]; decide) (by rw [w18]; decide) (by rw [w18]; decide) (by decide) ?_
              have hres := am_ifp w18 hres
              refine am_aload_n cx 3 dX11_rect_125 rfl ?_
              obtain ⟨v19, M20, q21, hres⟩ := am_bd_some hres
              refine am_callV1 cx [] dX11_rect_126 cvX11_140 (mt10_parts q21) (am_ke q6) ⟨rfl, rfl, Nat.le_of_ble_eq_true rfl, Nat.le_of_ble_eq_true rfl⟩ rfl (Nat.le_of_ble_eq_true rfl) ⟨Nat.le_of_ble_eq_true rfl, Nat.le_of_ble_eq_true rfl⟩ ?_
              obtain ⟨rfl, rfl⟩ := am_fin hres
              exact am_iret cx dX11_rect_129
            have hres := am_ifn w18 hres
            refine am_tableOut cx (tgt := 130) dX11_rect_47 (am_sw (fun cq h1 h2 => ?_)) (by decide) ?_
            · rcases (show cq = 0 ∨ cq = 1 ∨ cq = 2 ∨ cq = 3 ∨ cq = 4 ∨ cq = 5 by omega) with rfl | rfl | rfl | rfl | rfl | rfl
              · exact w7
              · exact w8
              · exact w9
              · exact w10
              · exact w14
              · exact w18
            skip
            refine am_aload_n cx 3 dX11_rect_130 rfl ?_
            obtain ⟨v22, M23, q24, hres⟩ := am_bd_some hres
            refine am_callV1 cx [] dX11_rect_131 cvX11_144 (mt10_crosses q24) (am_ke q6) ⟨rfl, rfl, Nat.le_of_ble_eq_true rfl, Nat.le_of_ble_eq_true rfl⟩ rfl (Nat.le_of_ble_eq_true rfl) ⟨Nat.le_of_ble_eq_true rfl, Nat.le_of_ble_eq_true rfl⟩ ?_
            obtain ⟨rfl, rfl⟩ := am_fin hres
            exact am_iret cx dX11_rect_134
          · have hres := am_ifn h hres
            refine am_bipush cx (v := (-2 : Int32)) dX11_rect_43 (by decide) ?_
            obtain ⟨rfl, rfl⟩ := am_fin hres
            exact am_iret cx dX11_rect_45
        · have hres := am_ifp h hres
          refine am_aload_n cx 3 dX11_rect_31 rfl ?_
          obtain ⟨q25, hres⟩ := am_ck_some hres
          refine am_getI cx dX11_rect_32 flX11_118 (am_ke q25) ?_
          obtain ⟨rfl, rfl⟩ := am_fin hres
          exact am_iret cx dX11_rect_35
      · have hres := am_ifn h hres
        refine am_sub cx [] rfl ?_
        exact sn11_rect_b23 cx  hres
set_option maxRecDepth 20000 in
theorem mt11_rect {l : Launch} {v : Int32} {M M' : am_Mem} {N : Nat} {r0 : Nat} {x1 : Int32} {x2 : Int32} (h : fn11_rect N M r0 x1 x2 = some (v, M')) : am_Met l yX11_rect cX11_rect 4 (some .int) rm11_rect 0 0 [.inr (.inr (.inl r0)), .inl x1, .inl x2] M (some (.inl v)) M' := am_mk (by decide) (Nat.le_of_ble_eq_true rfl) (fun G cx => (sn11_rect_b0 cx h))
-- SquareCuts.area
def fn11_area_b20  (r2 : Nat) (M : am_Mem) : Option (Int64 × am_Mem) :=
  am_bd (fn11_refusalFor M r2) (fun v1 M2 => some (v1.toInt64, M2))
def fn11_area_b0  (r0 : Nat) (x1 : Int32) (M : am_Mem) : Option (Int64 × am_Mem) :=
  am_ck (am_k M r0 11) (am_ck (am_k M (am_R M r0 8) 9) (am_bd (fn9_find M (am_R M r0 8) x1) (fun v3 M4 => if v3 = 0 then fn11_area_b20  v3 M4 else am_ck (am_k M4 v3 10) (if (am_I M4 v3 1) = 0 then some (((am_I M4 v3 5).toInt64 * (am_I M4 v3 6).toInt64), M4) else fn11_area_b20  v3 M4))))
def fn11_area (M : am_Mem) (r0 : Nat) (x1 : Int32) : Option (Int64 × am_Mem) := fn11_area_b0  r0 x1 M
def rm11_area : Room := { frames := 1, cells := 0, slots := 0, locals := 21 }
set_option maxRecDepth 20000 in
theorem sn11_area_b20 {l : Launch} {G : am_G} {v : Int64} {M' : am_Mem}  (cx : am_Ctx l rm11_area yX11_area cX11_area 3 (some .long) (some (.inr (.inl v))) M' 0 0 G)  {r2 : Nat} {M : am_Mem} (hres : fn11_area_b20  r2 M = some (v, M')) : G 20 [(2, .inr (.inr (.inl r2)))] [] M 0 0 := by
  unfold fn11_area_b20 at hres
  refine am_aload_n cx 0 dX11_area_20 rfl ?_
  obtain ⟨v1, M2, q3, hres⟩ := am_bd_some hres
  refine am_callS1 cx [.inr (.inr (.inl r2))] dX11_area_21 csX11_169 (mt11_refusalFor q3)  ⟨rfl, rfl, Nat.le_of_ble_eq_true rfl, Nat.le_of_ble_eq_true rfl⟩ rfl (Nat.le_of_ble_eq_true rfl) ⟨Nat.le_of_ble_eq_true rfl, Nat.le_of_ble_eq_true rfl⟩ ?_
  refine am_i2l cx dX11_area_24 ?_
  obtain ⟨rfl, rfl⟩ := am_fin hres
  exact am_lret cx dX11_area_25
set_option maxRecDepth 20000 in
theorem sn11_area_b0 {l : Launch} {G : am_G} {v : Int64} {M' : am_Mem}  (cx : am_Ctx l rm11_area yX11_area cX11_area 3 (some .long) (some (.inr (.inl v))) M' 0 0 G)  {r0 : Nat} {x1 : Int32} {M : am_Mem} (hres : fn11_area_b0  r0 x1 M = some (v, M')) : G 0 [(0, .inr (.inr (.inl r0))), (1, .inl x1)] [] M 0 0 := by
  unfold fn11_area_b0 at hres
  refine am_aload_n cx 0 dX11_area_0 rfl ?_
  obtain ⟨q1, hres⟩ := am_ck_some hres
  refine am_getR cx dX11_area_1 flX11_66 (am_ke q1) ?_
  refine am_iload_n cx 1 dX11_area_4 rfl ?_
  obtain ⟨q2, hres⟩ := am_ck_some hres
  obtain ⟨v3, M4, q5, hres⟩ := am_bd_some hres
  refine am_callV1 cx [.inl x1] dX11_area_5 cvX11_115 (mt9_find q5) (am_ke q2) ⟨rfl, rfl, Nat.le_of_ble_eq_true rfl, Nat.le_of_ble_eq_true rfl⟩ rfl (Nat.le_of_ble_eq_true rfl) ⟨Nat.le_of_ble_eq_true rfl, Nat.le_of_ble_eq_true rfl⟩ ?_
  refine am_astore_n cx (lv' := [(0, .inr (.inr (.inl r0))), (1, .inl x1), (2, .inr (.inr (.inl v3)))]) dX11_area_8 (Nat.le_of_ble_eq_true rfl) rfl ?_
  refine am_aload_n cx 2 dX11_area_9 rfl ?_
  refine am_ifnull cx (tgt := 20) dX11_area_10 (by decide) (fun h => ?_) (fun h => ?_)
  · have hres := am_ifp h hres
    refine am_sub cx [2] rfl ?_
    exact sn11_area_b20 cx  hres
  · have hres := am_ifn h hres
    refine am_aload_n cx 2 dX11_area_13 rfl ?_
    obtain ⟨q6, hres⟩ := am_ck_some hres
    refine am_getI cx dX11_area_14 flX11_123 (am_ke q6) ?_
    refine am_if_eq cx (tgt := 26) dX11_area_17 (by decide) (fun h => ?_) (fun h => ?_)
    · have hres := am_ifp h hres
      refine am_aload_n cx 2 dX11_area_26 rfl ?_
      refine am_getI cx dX11_area_27 flX11_130 (am_ke q6) ?_
      refine am_i2l cx dX11_area_30 ?_
      refine am_aload_n cx 2 dX11_area_31 rfl ?_
      refine am_getI cx dX11_area_32 flX11_133 (am_ke q6) ?_
      refine am_i2l cx dX11_area_35 ?_
      refine am_lmul cx dX11_area_36 ?_
      obtain ⟨rfl, rfl⟩ := am_fin hres
      exact am_lret cx dX11_area_37
    · have hres := am_ifn h hres
      refine am_sub cx [2] rfl ?_
      exact sn11_area_b20 cx  hres
set_option maxRecDepth 20000 in
theorem mt11_area {l : Launch} {v : Int64} {M M' : am_Mem} {r0 : Nat} {x1 : Int32} (h : fn11_area M r0 x1 = some (v, M')) : am_Met l yX11_area cX11_area 3 (some .long) rm11_area 0 0 [.inr (.inr (.inl r0)), .inl x1] M (some (.inr (.inl v))) M' := am_mk (by decide) (Nat.le_of_ble_eq_true rfl) (fun G cx => (sn11_area_b0 cx h))
-- SquareCuts.least
def fn11_least_b20 (N : Nat)  (r2 : Nat) (M : am_Mem) : Option (Int32 × am_Mem) :=
  am_bd (fn11_refusalFor M r2) (fun v1 M2 => some (v1, M2))
def fn11_least_b0 (N : Nat)  (r0 : Nat) (x1 : Int32) (M : am_Mem) : Option (Int32 × am_Mem) :=
  am_ck (am_k M r0 11) (am_ck (am_k M (am_R M r0 8) 9) (am_bd (fn9_find M (am_R M r0 8) x1) (fun v3 M4 => if v3 = 0 then fn11_least_b20 N  v3 M4 else am_ck (am_k M4 v3 10) (if (am_I M4 v3 1) = 0 then am_bd (fn10_firstSmallest N M4 v3) (fun v7 M8 => some (v7, M8)) else fn11_least_b20 N  v3 M4))))
def fn11_least (N : Nat) (M : am_Mem) (r0 : Nat) (x1 : Int32) : Option (Int32 × am_Mem) := fn11_least_b0 N r0 x1 M
def rm11_least : Room := { frames := 1, cells := 0, slots := 0, locals := 22 }
set_option maxRecDepth 20000 in
theorem sn11_least_b20 {l : Launch} {G : am_G} {v : Int32} {M' : am_Mem} {N : Nat}  (cx : am_Ctx l rm11_least yX11_least cX11_least 3 (some .int) (some (.inl v)) M' 0 0 G)  {r2 : Nat} {M : am_Mem} (hres : fn11_least_b20 N  r2 M = some (v, M')) : G 20 [(2, .inr (.inr (.inl r2)))] [] M 0 0 := by
  unfold fn11_least_b20 at hres
  refine am_aload_n cx 0 dX11_least_20 rfl ?_
  obtain ⟨v1, M2, q3, hres⟩ := am_bd_some hres
  refine am_callS1 cx [.inr (.inr (.inl r2))] dX11_least_21 csX11_169 (mt11_refusalFor q3)  ⟨rfl, rfl, Nat.le_of_ble_eq_true rfl, Nat.le_of_ble_eq_true rfl⟩ rfl (Nat.le_of_ble_eq_true rfl) ⟨Nat.le_of_ble_eq_true rfl, Nat.le_of_ble_eq_true rfl⟩ ?_
  obtain ⟨rfl, rfl⟩ := am_fin hres
  exact am_iret cx dX11_least_24
set_option maxRecDepth 20000 in
theorem sn11_least_b0 {l : Launch} {G : am_G} {v : Int32} {M' : am_Mem} {N : Nat}  (cx : am_Ctx l rm11_least yX11_least cX11_least 3 (some .int) (some (.inl v)) M' 0 0 G)  {r0 : Nat} {x1 : Int32} {M : am_Mem} (hres : fn11_least_b0 N  r0 x1 M = some (v, M')) : G 0 [(0, .inr (.inr (.inl r0))), (1, .inl x1)] [] M 0 0 := by
  unfold fn11_least_b0 at hres
  refine am_aload_n cx 0 dX11_least_0 rfl ?_
  obtain ⟨q1, hres⟩ := am_ck_some hres
  refine am_getR cx dX11_least_1 flX11_66 (am_ke q1) ?_
  refine am_iload_n cx 1 dX11_least_4 rfl ?_
  obtain ⟨q2, hres⟩ := am_ck_some hres
  obtain ⟨v3, M4, q5, hres⟩ := am_bd_some hres
  refine am_callV1 cx [.inl x1] dX11_least_5 cvX11_115 (mt9_find q5) (am_ke q2) ⟨rfl, rfl, Nat.le_of_ble_eq_true rfl, Nat.le_of_ble_eq_true rfl⟩ rfl (Nat.le_of_ble_eq_true rfl) ⟨Nat.le_of_ble_eq_true rfl, Nat.le_of_ble_eq_true rfl⟩ ?_
  refine am_astore_n cx (lv' := [(0, .inr (.inr (.inl r0))), (1, .inl x1), (2, .inr (.inr (.inl v3)))]) dX11_least_8 (Nat.le_of_ble_eq_true rfl) rfl ?_
  refine am_aload_n cx 2 dX11_least_9 rfl ?_
  refine am_ifnull cx (tgt := 20) dX11_least_10 (by decide) (fun h => ?_) (fun h => ?_)
  · have hres := am_ifp h hres
    refine am_sub cx [2] rfl ?_
    exact sn11_least_b20 cx  hres
  · have hres := am_ifn h hres
    refine am_aload_n cx 2 dX11_least_13 rfl ?_
    obtain ⟨q6, hres⟩ := am_ck_some hres
    refine am_getI cx dX11_least_14 flX11_123 (am_ke q6) ?_
    refine am_if_eq cx (tgt := 25) dX11_least_17 (by decide) (fun h => ?_) (fun h => ?_)
    · have hres := am_ifp h hres
      refine am_aload_n cx 2 dX11_least_25 rfl ?_
      obtain ⟨v7, M8, q9, hres⟩ := am_bd_some hres
      refine am_callV1 cx [] dX11_least_26 cvX11_173 (mt10_firstSmallest q9) (am_ke q6) ⟨rfl, rfl, Nat.le_of_ble_eq_true rfl, Nat.le_of_ble_eq_true rfl⟩ rfl (Nat.le_of_ble_eq_true rfl) ⟨Nat.le_of_ble_eq_true rfl, Nat.le_of_ble_eq_true rfl⟩ ?_
      obtain ⟨rfl, rfl⟩ := am_fin hres
      exact am_iret cx dX11_least_29
    · have hres := am_ifn h hres
      refine am_sub cx [2] rfl ?_
      exact sn11_least_b20 cx  hres
set_option maxRecDepth 20000 in
theorem mt11_least {l : Launch} {v : Int32} {M M' : am_Mem} {N : Nat} {r0 : Nat} {x1 : Int32} (h : fn11_least N M r0 x1 = some (v, M')) : am_Met l yX11_least cX11_least 3 (some .int) rm11_least 0 0 [.inr (.inr (.inl r0)), .inl x1] M (some (.inl v)) M' := am_mk (by decide) (Nat.le_of_ble_eq_true rfl) (fun G cx => (sn11_least_b0 cx h))
-- SquareCuts.groups
def fn11_groups_b20 (N : Nat)  (r2 : Nat) (M : am_Mem) : Option (Int32 × am_Mem) :=
  am_bd (fn11_refusalFor M r2) (fun v1 M2 => some (v1, M2))
def fn11_groups_b0 (N : Nat)  (r0 : Nat) (x1 : Int32) (M : am_Mem) : Option (Int32 × am_Mem) :=
  am_ck (am_k M r0 11) (am_ck (am_k M (am_R M r0 8) 9) (am_bd (fn9_find M (am_R M r0 8) x1) (fun v3 M4 => if v3 = 0 then fn11_groups_b20 N  v3 M4 else am_ck (am_k M4 v3 10) (if (am_I M4 v3 1) = 0 then am_bd (fn10_codeGroups N M4 v3) (fun v7 M8 => some (v7, M8)) else fn11_groups_b20 N  v3 M4))))
def fn11_groups (N : Nat) (M : am_Mem) (r0 : Nat) (x1 : Int32) : Option (Int32 × am_Mem) := fn11_groups_b0 N r0 x1 M
def rm11_groups : Room := { frames := 3, cells := 0, slots := 0, locals := 64 }
set_option maxRecDepth 20000 in
theorem sn11_groups_b20 {l : Launch} {G : am_G} {v : Int32} {M' : am_Mem} {N : Nat}  (cx : am_Ctx l rm11_groups yX11_groups cX11_groups 3 (some .int) (some (.inl v)) M' 0 0 G)  {r2 : Nat} {M : am_Mem} (hres : fn11_groups_b20 N  r2 M = some (v, M')) : G 20 [(2, .inr (.inr (.inl r2)))] [] M 0 0 := by
  unfold fn11_groups_b20 at hres
  refine am_aload_n cx 0 dX11_groups_20 rfl ?_
  obtain ⟨v1, M2, q3, hres⟩ := am_bd_some hres
  refine am_callS1 cx [.inr (.inr (.inl r2))] dX11_groups_21 csX11_169 (mt11_refusalFor q3)  ⟨rfl, rfl, Nat.le_of_ble_eq_true rfl, Nat.le_of_ble_eq_true rfl⟩ rfl (Nat.le_of_ble_eq_true rfl) ⟨Nat.le_of_ble_eq_true rfl, Nat.le_of_ble_eq_true rfl⟩ ?_
  obtain ⟨rfl, rfl⟩ := am_fin hres
  exact am_iret cx dX11_groups_24
set_option maxRecDepth 20000 in
theorem sn11_groups_b0 {l : Launch} {G : am_G} {v : Int32} {M' : am_Mem} {N : Nat}  (cx : am_Ctx l rm11_groups yX11_groups cX11_groups 3 (some .int) (some (.inl v)) M' 0 0 G)  {r0 : Nat} {x1 : Int32} {M : am_Mem} (hres : fn11_groups_b0 N  r0 x1 M = some (v, M')) : G 0 [(0, .inr (.inr (.inl r0))), (1, .inl x1)] [] M 0 0 := by
  unfold fn11_groups_b0 at hres
  refine am_aload_n cx 0 dX11_groups_0 rfl ?_
  obtain ⟨q1, hres⟩ := am_ck_some hres
  refine am_getR cx dX11_groups_1 flX11_66 (am_ke q1) ?_
  refine am_iload_n cx 1 dX11_groups_4 rfl ?_
  obtain ⟨q2, hres⟩ := am_ck_some hres
  obtain ⟨v3, M4, q5, hres⟩ := am_bd_some hres
  refine am_callV1 cx [.inl x1] dX11_groups_5 cvX11_115 (mt9_find q5) (am_ke q2) ⟨rfl, rfl, Nat.le_of_ble_eq_true rfl, Nat.le_of_ble_eq_true rfl⟩ rfl (Nat.le_of_ble_eq_true rfl) ⟨Nat.le_of_ble_eq_true rfl, Nat.le_of_ble_eq_true rfl⟩ ?_
  refine am_astore_n cx (lv' := [(0, .inr (.inr (.inl r0))), (1, .inl x1), (2, .inr (.inr (.inl v3)))]) dX11_groups_8 (Nat.le_of_ble_eq_true rfl) rfl ?_
  refine am_aload_n cx 2 dX11_groups_9 rfl ?_
  refine am_ifnull cx (tgt := 20) dX11_groups_10 (by decide) (fun h => ?_) (fun h => ?_)
  · have hres := am_ifp h hres
    refine am_sub cx [2] rfl ?_
    exact sn11_groups_b20 cx  hres
  · have hres := am_ifn h hres
    refine am_aload_n cx 2 dX11_groups_13 rfl ?_
    obtain ⟨q6, hres⟩ := am_ck_some hres
    refine am_getI cx dX11_groups_14 flX11_123 (am_ke q6) ?_
    refine am_if_eq cx (tgt := 25) dX11_groups_17 (by decide) (fun h => ?_) (fun h => ?_)
    · have hres := am_ifp h hres
      refine am_aload_n cx 2 dX11_groups_25 rfl ?_
      obtain ⟨v7, M8, q9, hres⟩ := am_bd_some hres
      refine am_callV1 cx [] dX11_groups_26 cvX11_186 (mt10_codeGroups q9) (am_ke q6) ⟨rfl, rfl, Nat.le_of_ble_eq_true rfl, Nat.le_of_ble_eq_true rfl⟩ rfl (Nat.le_of_ble_eq_true rfl) ⟨Nat.le_of_ble_eq_true rfl, Nat.le_of_ble_eq_true rfl⟩ ?_
      obtain ⟨rfl, rfl⟩ := am_fin hres
      exact am_iret cx dX11_groups_29
    · have hres := am_ifn h hres
      refine am_sub cx [2] rfl ?_
      exact sn11_groups_b20 cx  hres
set_option maxRecDepth 20000 in
theorem mt11_groups {l : Launch} {v : Int32} {M M' : am_Mem} {N : Nat} {r0 : Nat} {x1 : Int32} (h : fn11_groups N M r0 x1 = some (v, M')) : am_Met l yX11_groups cX11_groups 3 (some .int) rm11_groups 0 0 [.inr (.inr (.inl r0)), .inl x1] M (some (.inl v)) M' := am_mk (by decide) (Nat.le_of_ble_eq_true rfl) (fun G cx => (sn11_groups_b0 cx h))
