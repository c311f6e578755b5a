-- java/lang/String.length
def fnJ0_length_8abf5_b0  (w0 : Nat) (M : am_Mem) : Option (Int32 × am_Mem) :=
  am_ck (am_isS w0) (am_ck (am_isB (8 + w0)) (am_bd (fnJ0_coder_7d493 M w0) (fun v3 M4 => some (((Int32.ofNat (am_sL (8 + w0))) >>> (v3 &&& 31)), M4))))
def fnJ0_length_8abf5 (M : am_Mem) (w0 : Nat) : Option (Int32 × am_Mem) := fnJ0_length_8abf5_b0  w0 M
def rmJ0_length_8abf5 : Room := { frames := 1, cells := 0, slots := 0, locals := 20 }
set_option maxRecDepth 20000 in
theorem snJ0_length_8abf5_b0 {l : Launch} {G : am_G} {v : Int32} {M' : am_Mem}  (cx : am_Ctx l rmJ0_length_8abf5 yJ0_length_8abf5 cJ0_length_8abf5 1 (some .int) (some (.inl v)) M' 0 0 G)  {w0 : Nat} {M : am_Mem} (hres : fnJ0_length_8abf5_b0  w0 M = some (v, M')) : G 0 [(0, .inr (.inr (.inr w0)))] [] M 0 0 := by
  unfold fnJ0_length_8abf5_b0 at hres
  refine am_aload_nS cx 0 dJ0_length_8abf5_0 rfl ?_
  obtain ⟨q1, hres⟩ := am_ck_some hres
  refine am_sval cx dJ0_length_8abf5_1 aw_7_97 q1 ?_
  obtain ⟨q2, hres⟩ := am_ck_some hres
  refine am_salen cx dJ0_length_8abf5_4 q2 ?_
  refine am_aload_nS cx 0 dJ0_length_8abf5_5 rfl ?_
  obtain ⟨v3, M4, q5, hres⟩ := am_bd_some hres
  refine am_callVT1 cx [] dJ0_length_8abf5_6 cvJ0_335 (mtJ0_coder_7d493 q5) q1 ⟨rfl, rfl, Nat.le_of_ble_eq_true rfl, Nat.le_of_ble_eq_true rfl⟩ rfl (Nat.le_of_ble_eq_true rfl) ⟨Nat.le_of_ble_eq_true rfl, Nat.le_of_ble_eq_true rfl⟩ ?_
  refine am_ishr cx dJ0_length_8abf5_9 ?_
  obtain ⟨rfl, rfl⟩ := am_fin hres
  exact am_iret cx dJ0_length_8abf5_10
set_option maxRecDepth 20000 in
theorem mtJ0_length_8abf5 {l : Launch} {v : Int32} {M M' : am_Mem} {w0 : Nat} (h : fnJ0_length_8abf5 M w0 = some (v, M')) : am_Met l yJ0_length_8abf5 cJ0_length_8abf5 1 (some .int) rmJ0_length_8abf5 0 0 [.inr (.inr (.inr w0))] M (some (.inl v)) M' := am_mk (by decide) (Nat.le_of_ble_eq_true rfl) (fun G cx => (snJ0_length_8abf5_b0 cx h))
-- java/lang/String.checkIndex
def fnJ0_checkIndex_df160_b0  (x0 : Int32) (x1 : Int32) (M : am_Mem) : Option (Unit × am_Mem) :=
  am_bd (fnJ3_checkIndex_8e157 M x0 x1 15) (fun v1 M2 => some ((), M2))
def fnJ0_checkIndex_df160 (M : am_Mem) (x0 : Int32) (x1 : Int32) : Option (Unit × am_Mem) := fnJ0_checkIndex_df160_b0  x0 x1 M
def rmJ0_checkIndex_df160 : Room := { frames := 1, cells := 0, slots := 0, locals := 22 }
set_option maxRecDepth 20000 in
theorem snJ0_checkIndex_df160_b0 {l : Launch} {G : am_G} {M' : am_Mem}  (cx : am_Ctx l rmJ0_checkIndex_df160 yJ0_checkIndex_df160 cJ0_checkIndex_df160 2 none none M' 0 0 G)  {x0 : Int32} {x1 : Int32} {M : am_Mem} (hres : fnJ0_checkIndex_df160_b0  x0 x1 M = some ((), M')) : G 0 [(0, .inl x0), (1, .inl x1)] [] M 0 0 := by
  unfold fnJ0_checkIndex_df160_b0 at hres
  refine am_iload_n cx 0 dJ0_checkIndex_df160_0 rfl ?_
  refine am_iload_n cx 1 dJ0_checkIndex_df160_1 rfl ?_
  refine am_sSIOOBE_FORMATTER cx dJ0_checkIndex_df160_2 aw_5_211 ?_
  obtain ⟨v1, M2, q3, hres⟩ := am_bd_some hres
  refine am_callS1 cx [.inl x0, .inl x1, .inr (.inr (.inr 15))] dJ0_checkIndex_df160_5 csJ0_1059 (mtJ3_checkIndex_8e157 q3)  ⟨rfl, rfl, Nat.le_of_ble_eq_true rfl, Nat.le_of_ble_eq_true rfl⟩ rfl (Nat.le_of_ble_eq_true rfl) ⟨Nat.le_of_ble_eq_true rfl, Nat.le_of_ble_eq_true rfl⟩ ?_
  refine am_pop1 cx dJ0_checkIndex_df160_8 rfl ?_
  obtain ⟨-, rfl⟩ := am_fin hres
  exact am_vret cx dJ0_checkIndex_df160_9
set_option maxRecDepth 20000 in
theorem mtJ0_checkIndex_df160 {l : Launch} {M M' : am_Mem} {x0 : Int32} {x1 : Int32} (h : fnJ0_checkIndex_df160 M x0 x1 = some ((), M')) : am_Met l yJ0_checkIndex_df160 cJ0_checkIndex_df160 2 none rmJ0_checkIndex_df160 0 0 [.inl x0, .inl x1] M none M' := am_mk (by decide) (Nat.le_of_ble_eq_true rfl) (fun G cx => (snJ0_checkIndex_df160_b0 cx h))
-- java/lang/StringLatin1.charAt
def fnJ1_charAt_3b067_b0  (w0 : Nat) (x1 : Int32) (M : am_Mem) : Option (Int32 × am_Mem) :=
  am_ck (am_isB w0) (am_bd (fnJ0_checkIndex_df160 M x1 (Int32.ofNat (am_sL w0))) (fun v2 M3 => am_ck (am_isB w0) (am_ck (am_in x1 (am_sL w0)) (am_ck (decide (((((am_sB w0 x1.toNatClampNeg) &&& (255 : Int32)).toUInt32 % 65536).toInt32).toUInt32.toUInt16.toUInt32.toInt32 = ((((am_sB w0 x1.toNatClampNeg) &&& (255 : Int32)).toUInt32 % 65536).toInt32))) (some (((((am_sB w0 x1.toNatClampNeg) &&& (255 : Int32)).toUInt32 % 65536).toInt32), M3))))))
def fnJ1_charAt_3b067 (M : am_Mem) (w0 : Nat) (x1 : Int32) : Option (Int32 × am_Mem) := fnJ1_charAt_3b067_b0  w0 x1 M
def rmJ1_charAt_3b067 : Room := { frames := 2, cells := 0, slots := 0, locals := 43 }
set_option maxRecDepth 20000 in
theorem snJ1_charAt_3b067_b0 {l : Launch} {G : am_G} {v : Int32} {M' : am_Mem}  (cx : am_Ctx l rmJ1_charAt_3b067 yJ1_charAt_3b067 cJ1_charAt_3b067 2 (some .char) (some (.inl v)) M' 0 0 G)  {w0 : Nat} {x1 : Int32} {M : am_Mem} (hres : fnJ1_charAt_3b067_b0  w0 x1 M = some (v, M')) : G 0 [(0, .inr (.inr (.inr w0))), (1, .inl x1)] [] M 0 0 := by
  unfold fnJ1_charAt_3b067_b0 at hres
  refine am_iload_n cx 1 dJ1_charAt_3b067_0 rfl ?_
  refine am_aload_nS cx 0 dJ1_charAt_3b067_1 rfl ?_
  obtain ⟨q1, hres⟩ := am_ck_some hres
  refine am_salen cx dJ1_charAt_3b067_2 q1 ?_
  obtain ⟨v2, M3, q4, hres⟩ := am_bd_some hres
  refine am_callS0 cx [.inl x1, .inl (Int32.ofNat (am_sL w0))] dJ1_charAt_3b067_3 csJ1_9 (mtJ0_checkIndex_df160 q4)  ⟨rfl, rfl, Nat.le_of_ble_eq_true rfl, Nat.le_of_ble_eq_true rfl⟩ rfl (Nat.le_of_ble_eq_true rfl) ⟨Nat.le_of_ble_eq_true rfl, Nat.le_of_ble_eq_true rfl⟩ ?_
  refine am_aload_nS cx 0 dJ1_charAt_3b067_6 rfl ?_
  refine am_iload_n cx 1 dJ1_charAt_3b067_7 rfl ?_
  obtain ⟨q5, hres⟩ := am_ck_some hres
  obtain ⟨q6, hres⟩ := am_ck_some hres
  refine am_sbald cx dJ1_charAt_3b067_8 q5 q6 ?_
  refine am_sipush cx (v := (255 : Int32)) dJ1_charAt_3b067_9 (by decide) ?_
  refine am_iand cx dJ1_charAt_3b067_12 ?_
  refine am_i2c cx dJ1_charAt_3b067_13 ?_
  obtain ⟨q7, hres⟩ := am_ck_some hres
  obtain ⟨rfl, rfl⟩ := am_fin hres
  exact am_nret cx (congrArg Value.int (of_decide_eq_true q7)) dJ1_charAt_3b067_14
set_option maxRecDepth 20000 in
theorem mtJ1_charAt_3b067 {l : Launch} {v : Int32} {M M' : am_Mem} {w0 : Nat} {x1 : Int32} (h : fnJ1_charAt_3b067 M w0 x1 = some (v, M')) : am_Met l yJ1_charAt_3b067 cJ1_charAt_3b067 2 (some .char) rmJ1_charAt_3b067 0 0 [.inr (.inr (.inr w0)), .inl x1] M (some (.inl v)) M' := am_mk (by decide) (Nat.le_of_ble_eq_true rfl) (fun G cx => (snJ1_charAt_3b067_b0 cx h))
-- SquareCuts$Draft.takeTurned
def fn0_takeTurned_b257 (N : Nat) (k70 : Nat → Nat → Int32 → Int32 → Int32 → am_Mem → Option (Unit × am_Mem)) (r0 : Nat) (r1 : Nat) (x2 : Int32) (x3 : Int32) (x7 : Int32) (M : am_Mem) : Option (Unit × am_Mem) :=
  k70 r0 r1 x2 x3 (x7 + (1 : Int32)) M
def fn0_takeTurned_b163 (N : Nat) (k70 : Nat → Nat → Int32 → Int32 → Int32 → am_Mem → Option (Unit × am_Mem)) (r0 : Nat) (r1 : Nat) (x2 : Int32) (x3 : Int32) (x7 : Int32) (x9 : Int32) (x10 : Int32) (x11 : Int32) (x12 : Int32) (x13 : Int32) (M : am_Mem) : Option (Unit × am_Mem) :=
  if (x2 &&& (3 : Int32)) = (0 : Int32) then (am_ck (decide (¬ x3 = 0)) (am_ck (decide (¬ x3 = 0)) (am_ck (am_k M r0 0) (am_bd (fn0_add M r0 (x10 / x3) (x12 / x3) x13) (fun v5 M6 => fn0_takeTurned_b257 N k70 r0 r1 x2 x3 x7 M6))))) else (if (x2 &&& (3 : Int32)) = (1 : Int32) then (am_ck (decide (¬ x3 = 0)) (am_ck (decide (¬ x3 = 0)) (am_ck (am_k M r0 0) (am_bd (fn0_add M r0 (x9 / x3) (x10 / x3) x13) (fun v12 M13 => fn0_takeTurned_b257 N k70 r0 r1 x2 x3 x7 M13))))) else (if (x2 &&& (3 : Int32)) = (2 : Int32) then (am_ck (decide (¬ x3 = 0)) (am_ck (decide (¬ x3 = 0)) (am_ck (am_k M r0 0) (am_bd (fn0_add M r0 (x11 / x3) (x9 / x3) x13) (fun v19 M20 => fn0_takeTurned_b257 N k70 r0 r1 x2 x3 x7 M20))))) else (am_ck (decide (¬ x3 = 0)) (am_ck (decide (¬ x3 = 0)) (am_ck (am_k M r0 0) (am_bd (fn0_add M r0 (x12 / x3) (x11 / x3) x13) (fun v25 M26 => fn0_takeTurned_b257 N k70 r0 r1 x2 x3 x7 M26)))))))
def fn0_takeTurned_b152 (N : Nat) (k70 : Nat → Nat → Int32 → Int32 → Int32 → am_Mem → Option (Unit × am_Mem)) (r0 : Nat) (r1 : Nat) (x2 : Int32) (x3 : Int32) (x7 : Int32) (x9 : Int32) (x10 : Int32) (x11 : Int32) (x12 : Int32) (M : am_Mem) : Option (Unit × am_Mem) :=
  am_ck (am_k M r1 10) (am_ck (am_k M (am_R M r1 9) 14) (am_ck (am_in x7 (am_L M (am_R M r1 9))) (am_ck (decide (¬ x3 = 0)) (fn0_takeTurned_b163 N k70 r0 r1 x2 x3 x7 x9 x10 x11 x12 ((am_I M (am_R M r1 9) x7.toNatClampNeg) / x3) M))))
def fn0_takeTurned_b141 (N : Nat) (k70 : Nat → Nat → Int32 → Int32 → Int32 → am_Mem → Option (Unit × am_Mem)) (a0 : Int32) (r0 : Nat) (r1 : Nat) (x2 : Int32) (x3 : Int32) (x7 : Int32) (x9 : Int32) (x10 : Int32) (M : am_Mem) : Option (Unit × am_Mem) :=
  am_ck (am_k M r1 10) (am_ck (am_k M (am_R M r1 8) 14) (am_ck (am_in x7 (am_L M (am_R M r1 8))) (fn0_takeTurned_b152 N k70 r0 r1 x2 x3 x7 x9 x10 a0 (am_I M (am_R M r1 8) x7.toNatClampNeg) M)))
def fn0_takeTurned_b124 (N : Nat) (k70 : Nat → Nat → Int32 → Int32 → Int32 → am_Mem → Option (Unit × am_Mem)) (r0 : Nat) (r1 : Nat) (x2 : Int32) (x3 : Int32) (x7 : Int32) (x8 : Int32) (x9 : Int32) (x10 : Int32) (M : am_Mem) : Option (Unit × am_Mem) :=
  if x2 < (4 : Int32) then fn0_takeTurned_b141 N k70 x8 r0 r1 x2 x3 x7 x9 x10 M else am_ck (am_k M r1 10) (am_ck (am_k M (am_R M r1 7) 14) (am_ck (am_in x7 (am_L M (am_R M r1 7))) (fn0_takeTurned_b141 N k70 (am_I M (am_R M r1 7) x7.toNatClampNeg) r0 r1 x2 x3 x7 x9 x10 M)))
def fn0_takeTurned_b122 (N : Nat) (k70 : Nat → Nat → Int32 → Int32 → Int32 → am_Mem → Option (Unit × am_Mem)) (a0 : Int32) (r0 : Nat) (r1 : Nat) (x2 : Int32) (x3 : Int32) (x7 : Int32) (x8 : Int32) (x9 : Int32) (M : am_Mem) : Option (Unit × am_Mem) :=
  fn0_takeTurned_b124 N k70 r0 r1 x2 x3 x7 x8 x9 a0 M
def fn0_takeTurned_b105 (N : Nat) (k70 : Nat → Nat → Int32 → Int32 → Int32 → am_Mem → Option (Unit × am_Mem)) (r0 : Nat) (r1 : Nat) (x2 : Int32) (x3 : Int32) (x7 : Int32) (x8 : Int32) (x9 : Int32) (M : am_Mem) : Option (Unit × am_Mem) :=
  if x2 < (4 : Int32) then am_ck (am_k M r1 10) (am_ck (am_k M (am_R M r1 7) 14) (am_ck (am_in x7 (am_L M (am_R M r1 7))) (fn0_takeTurned_b122 N k70 (am_I M (am_R M r1 7) x7.toNatClampNeg) r0 r1 x2 x3 x7 x8 x9 M))) else fn0_takeTurned_b122 N k70 x8 r0 r1 x2 x3 x7 x8 x9 M
def fn0_takeTurned_b92 (N : Nat) (k70 : Nat → Nat → Int32 → Int32 → Int32 → am_Mem → Option (Unit × am_Mem)) (r0 : Nat) (r1 : Nat) (x2 : Int32) (x3 : Int32) (x7 : Int32) (x8 : Int32) (M : am_Mem) : Option (Unit × am_Mem) :=
  am_ck (am_k M r1 10) (am_bd (fn10_bottom M r1 x7) (fun v2 M3 => fn0_takeTurned_b105 N k70 r0 r1 x2 x3 x7 x8 ((am_I M r1 6) - v2) M3))
def fn0_takeTurned_b70B (N : Nat) (k70 : Nat → Nat → Int32 → Int32 → Int32 → am_Mem → Option (Unit × am_Mem)) (r0 : Nat) (r1 : Nat) (x2 : Int32) (x3 : Int32) (x7 : Int32) (M : am_Mem) : Option (Unit × am_Mem) :=
  am_ck (am_k M r1 10) (if (am_I M r1 4) ≤ x7 then am_ck (am_k M r0 0) (am_bd (fn0_sortAsCode N M r0) (fun v3 M4 => some ((), M4))) else am_bd (fn10_right M r1 x7) (fun v6 M7 => fn0_takeTurned_b92 N k70 r0 r1 x2 x3 x7 ((am_I M r1 5) - v6) M7))
def fn0_takeTurned_b70 (N : Nat)  : Nat → Nat → Nat → Int32 → Int32 → Int32 → am_Mem → Option (Unit × am_Mem)
  | 0 => fun _ _ _ _ _ _ => none
  | i + 1 => fn0_takeTurned_b70B N (fn0_takeTurned_b70 N  i)
def fn0_takeTurned_b55 (N : Nat)  (r0 : Nat) (r1 : Nat) (x2 : Int32) (x3 : Int32) (x5 : Int32) (x6 : Int32) (M : am_Mem) : Option (Unit × am_Mem) :=
  am_ck (decide (¬ x3 = 0)) (am_ck (decide (¬ x3 = 0)) (am_ck (am_k M r0 0) (am_bd (fn0_begin M r0 (x5 / x3) (x6 / x3)) (fun v4 M5 => fn0_takeTurned_b70 N  N r0 r1 x2 x3 (0 : Int32) M5))))
def fn0_takeTurned_b53 (N : Nat)  (a0 : Int32) (r0 : Nat) (r1 : Nat) (x2 : Int32) (x3 : Int32) (x5 : Int32) (M : am_Mem) : Option (Unit × am_Mem) :=
  fn0_takeTurned_b55 N  r0 r1 x2 x3 x5 a0 M
def fn0_takeTurned_b37 (N : Nat)  (r0 : Nat) (r1 : Nat) (x2 : Int32) (x3 : Int32) (x4 : Int32) (x5 : Int32) (M : am_Mem) : Option (Unit × am_Mem) :=
  if x4 = 0 then am_ck (am_k M r1 10) (fn0_takeTurned_b53 N  (am_I M r1 6) r0 r1 x2 x3 x5 M) else am_ck (am_k M r1 10) (fn0_takeTurned_b53 N  (am_I M r1 5) r0 r1 x2 x3 x5 M)
def fn0_takeTurned_b35 (N : Nat)  (a0 : Int32) (r0 : Nat) (r1 : Nat) (x2 : Int32) (x3 : Int32) (x4 : Int32) (M : am_Mem) : Option (Unit × am_Mem) :=
  fn0_takeTurned_b37 N  r0 r1 x2 x3 x4 a0 M
def fn0_takeTurned_b17 (N : Nat)  (a0 : Int32) (r0 : Nat) (r1 : Nat) (x2 : Int32) (x3 : Int32) (M : am_Mem) : Option (Unit × am_Mem) :=
  if a0 = 0 then am_ck (am_k M r1 10) (fn0_takeTurned_b35 N  (am_I M r1 5) r0 r1 x2 x3 a0 M) else am_ck (am_k M r1 10) (fn0_takeTurned_b35 N  (am_I M r1 6) r0 r1 x2 x3 a0 M)
def fn0_takeTurned_b0 (N : Nat)  (r0 : Nat) (r1 : Nat) (x2 : Int32) (x3 : Int32) (M : am_Mem) : Option (Unit × am_Mem) :=
  if x3 = 0 then some ((), M) else if (x2 &&& (1 : Int32)) = (1 : Int32) then fn0_takeTurned_b17 N  (1 : Int32) r0 r1 x2 x3 M else fn0_takeTurned_b17 N  (0 : Int32) r0 r1 x2 x3 M
def fn0_takeTurned (N : Nat) (M : am_Mem) (r0 : Nat) (r1 : Nat) (x2 : Int32) (x3 : Int32) : Option (Unit × am_Mem) := fn0_takeTurned_b0 N r0 r1 x2 x3 M
def rm0_takeTurned : Room := { frames := 2, cells := 0, slots := 0, locals := 48 }
set_option maxRecDepth 20000 in
theorem sn0_takeTurned_b257 {l : Launch} {G : am_G} {M' : am_Mem} {N : Nat} {k70 : Nat → Nat → Int32 → Int32 → Int32 → am_Mem → Option (Unit × am_Mem)} (cx : am_Ctx l rm0_takeTurned yX0_takeTurned cX0_takeTurned 14 none none M' 0 0 G) (hk70 : ∀ (r0 : Nat) (r1 : Nat) (x2 : Int32) (x3 : Int32) (x7 : Int32) (M : am_Mem), k70 r0 r1 x2 x3 x7 M = some ((), M') → G 70 [(0, .inr (.inr (.inl r0))), (1, .inr (.inr (.inl r1))), (2, .inl x2), (3, .inl x3), (7, .inl x7)] [] M 0 0) {r0 : Nat} {r1 : Nat} {x2 : Int32} {x3 : Int32} {x7 : Int32} {M : am_Mem} (hres : fn0_takeTurned_b257 N k70 r0 r1 x2 x3 x7 M = some ((), M')) : G 257 [(0, .inr (.inr (.inl r0))), (1, .inr (.inr (.inl r1))), (2, .inl x2), (3, .inl x3), (7, .inl x7)] [] M 0 0 := by
  unfold fn0_takeTurned_b257 at hres
  refine am_iincw cx (lv' := [(0, .inr (.inr (.inl r0))), (1, .inr (.inr (.inl r1))), (2, .inl x2), (3, .inl x3), (7, .inl (x7 + (1 : Int32)))]) (w := (1 : Int32)) 4 dX0_takeTurned_257 (by decide) rfl (Nat.le_of_ble_eq_true rfl) rfl ?_
  refine am_goto cx (tgt := 70) dX0_takeTurned_260 (by decide) ?_
  exact hk70 _ _ _ _ _ _ hres
set_option maxRecDepth 20000 in
theorem sn0_takeTurned_b163 {l : Launch} {G : am_G} {M' : am_Mem} {N : Nat} {k70 : Nat → Nat → Int32 → Int32 → Int32 → am_Mem → Option (Unit × am_Mem)} (cx : am_Ctx l rm0_takeTurned yX0_takeTurned cX0_takeTurned 14 none none M' 0 0 G) (hk70 : ∀ (r0 : Nat) (r1 : Nat) (x2 : Int32) (x3 : Int32) (x7 : Int32) (M : am_Mem), k70 r0 r1 x2 x3 x7 M = some ((), M') → G 70 [(0, .inr (.inr (.inl r0))), (1, .inr (.inr (.inl r1))), (2, .inl x2), (3, .inl x3), (7, .inl x7)] [] M 0 0) {r0 : Nat} {r1 : Nat} {x2 : Int32} {x3 : Int32} {x7 : Int32} {x9 : Int32} {x10 : Int32} {x11 : Int32} {x12 : Int32} {x13 : Int32} {M : am_Mem} (hres : fn0_takeTurned_b163 N k70 r0 r1 x2 x3 x7 x9 x10 x11 x12 x13 M = some ((), M')) : G 163 [(0, .inr (.inr (.inl r0))), (1, .inr (.inr (.inl r1))), (2, .inl x2), (3, .inl x3), (7, .inl x7), (9, .inl x9), (10, .inl x10), (11, .inl x11), (12, .inl x12), (13, .inl x13)] [] M 0 0 := by
  unfold fn0_takeTurned_b163 at hres
  refine am_iload_n cx 2 dX0_takeTurned_163 rfl ?_
  refine am_iconst cx (v := (3 : Int32)) dX0_takeTurned_164 (by decide) ?_
  refine am_iand cx dX0_takeTurned_165 ?_
  by_cases w1 : (x2 &&& (3 : Int32)) = (0 : Int32)
  · refine am_tableIn cx (tgt := 192) (off := 26) dX0_takeTurned_166 (by rw [w1]; decide) (by rw [w1]; decide) (by rw [w1]; decide) (by decide) ?_
    have hres := am_ifp w1 hres
    refine am_aload_n cx 0 dX0_takeTurned_192 rfl ?_
    refine am_iload cx 6 dX0_takeTurned_193 rfl ?_
    refine am_iload_n cx 3 dX0_takeTurned_195 rfl ?_
    obtain ⟨q2, hres⟩ := am_ck_some hres
    refine am_idiv cx dX0_takeTurned_196 (of_decide_eq_true q2) ?_
    refine am_iload cx 8 dX0_takeTurned_197 rfl ?_
    refine am_iload_n cx 3 dX0_takeTurned_199 rfl ?_
    obtain ⟨q3, hres⟩ := am_ck_some hres
    refine am_idiv cx dX0_takeTurned_200 (of_decide_eq_true q3) ?_
    refine am_iload cx 9 dX0_takeTurned_201 rfl ?_
    obtain ⟨q4, hres⟩ := am_ck_some hres
    obtain ⟨v5, M6, q7, hres⟩ := am_bd_some hres
    refine am_callV0 cx [.inl (x10 / x3), .inl (x12 / x3), .inl x13] dX0_takeTurned_203 cvX0_37 (mt0_add q7) (am_ke q4) ⟨rfl, rfl, Nat.le_of_ble_eq_true rfl, Nat.le_of_ble_eq_true rfl⟩ rfl (Nat.le_of_ble_eq_true rfl) ⟨Nat.le_of_ble_eq_true rfl, Nat.le_of_ble_eq_true rfl⟩ ?_
    refine am_goto cx (tgt := 257) dX0_takeTurned_206 (by decide) ?_
    refine am_sub cx [0, 1, 2, 3, 4] rfl ?_
    exact sn0_takeTurned_b257 cx hk70 hres
  have hres := am_ifn w1 hres
  by_cases w8 : (x2 &&& (3 : Int32)) = (1 : Int32)
  · refine am_tableIn cx (tgt := 209) (off := 43) dX0_takeTurned_166 (by rw [w8]; decide) (by rw [w8]; decide) (by rw [w8]; decide) (by decide) ?_
    have hres := am_ifp w8 hres
    refine am_aload_n cx 0 dX0_takeTurned_209 rfl ?_
    refine am_iload cx 5 dX0_takeTurned_210 rfl ?_
    refine am_iload_n cx 3 dX0_takeTurned_212 rfl ?_
    obtain ⟨q9, hres⟩ := am_ck_some hres
    refine am_idiv cx dX0_takeTurned_213 (of_decide_eq_true q9) ?_
    refine am_iload cx 6 dX0_takeTurned_214 rfl ?_
    refine am_iload_n cx 3 dX0_takeTurned_216 rfl ?_
    obtain ⟨q10, hres⟩ := am_ck_some hres
    refine am_idiv cx dX0_takeTurned_217 (of_decide_eq_true q10) ?_
    refine am_iload cx 9 dX0_takeTurned_218 rfl ?_
    obtain ⟨q11, hres⟩ := am_ck_some hres
    obtain ⟨v12, M13, q14, hres⟩ := am_bd_some hres
    refine am_callV0 cx [.inl (x9 / x3), .inl (x10 / x3), .inl x13] dX0_takeTurned_220 cvX0_37 (mt0_add q14) (am_ke q11) ⟨rfl, rfl, Nat.le_of_ble_eq_true rfl, Nat.le_of_ble_eq_true rfl⟩ rfl (Nat.le_of_ble_eq_true rfl) ⟨Nat.le_of_ble_eq_true rfl, Nat.le_of_ble_eq_true rfl⟩ ?_
    refine am_goto cx (tgt := 257) dX0_takeTurned_223 (by decide) ?_
    refine am_sub cx [0, 1, 2, 3, 4] rfl ?_
    exact sn0_takeTurned_b257 cx hk70 hres
  have hres := am_ifn w8 hres
  by_cases w15 : (x2 &&& (3 : Int32)) = (2 : Int32)
  · refine am_tableIn cx (tgt := 226) (off := 60) dX0_takeTurned_166 (by rw [w15]; decide) (by rw [w15]; decide) (by rw [w15]; decide) (by decide) ?_
    have hres := am_ifp w15 hres
    refine am_aload_n cx 0 dX0_takeTurned_226 rfl ?_
    refine am_iload cx 7 dX0_takeTurned_227 rfl ?_
    refine am_iload_n cx 3 dX0_takeTurned_229 rfl ?_
    obtain ⟨q16, hres⟩ := am_ck_some hres
    refine am_idiv cx dX0_takeTurned_230 (of_decide_eq_true q16) ?_
    refine am_iload cx 5 dX0_takeTurned_231 rfl ?_
    refine am_iload_n cx 3 dX0_takeTurned_233 rfl ?_
    obtain ⟨q17, hres⟩ := am_ck_some hres
    refine am_idiv cx dX0_takeTurned_234 (of_decide_eq_true q17) ?_
    refine am_iload cx 9 dX0_takeTurned_235 rfl ?_
    obtain ⟨q18, hres⟩ := am_ck_some hres
    obtain ⟨v19, M20, q21, hres⟩ := am_bd_some hres
    refine am_callV0 cx [.inl (x11 / x3), .inl (x9 / x3), .inl x13] dX0_takeTurned_237 cvX0_37 (mt0_add q21) (am_ke q18) ⟨rfl, rfl, Nat.le_of_ble_eq_true rfl, Nat.le_of_ble_eq_true rfl⟩ rfl (Nat.le_of_ble_eq_true rfl) ⟨Nat.le_of_ble_eq_true rfl, Nat.le_of_ble_eq_true rfl⟩ ?_
    refine am_goto cx (tgt := 257) dX0_takeTurned_240 (by decide) ?_
    refine am_sub cx [0, 1, 2, 3, 4] rfl ?_
    exact sn0_takeTurned_b257 cx hk70 hres
  have hres := am_ifn w15 hres
  refine am_tableOut cx (tgt := 243) dX0_takeTurned_166 (am_sw (fun cq h1 h2 => ?_)) (by decide) ?_
  · rcases (show cq = 0 ∨ cq = 1 ∨ cq = 2 by omega) with rfl | rfl | rfl
    · exact w1
    · exact w8
    · exact w15
  skip
  refine am_aload_n cx 0 dX0_takeTurned_243 rfl ?_
  refine am_iload cx 8 dX0_takeTurned_244 rfl ?_
  refine am_iload_n cx 3 dX0_takeTurned_246 rfl ?_
  obtain ⟨q22, hres⟩ := am_ck_some hres
  refine am_idiv cx dX0_takeTurned_247 (of_decide_eq_true q22) ?_
  refine am_iload cx 7 dX0_takeTurned_248 rfl ?_
  refine am_iload_n cx 3 dX0_takeTurned_250 rfl ?_
  obtain ⟨q23, hres⟩ := am_ck_some hres
  refine am_idiv cx dX0_takeTurned_251 (of_decide_eq_true q23) ?_
  refine am_iload cx 9 dX0_takeTurned_252 rfl ?_
  obtain ⟨q24, hres⟩ := am_ck_some hres
  obtain ⟨v25, M26, q27, hres⟩ := am_bd_some hres
  refine am_callV0 cx [.inl (x12 / x3), .inl (x11 / x3), .inl x13] dX0_takeTurned_254 cvX0_37 (mt0_add q27) (am_ke q24) ⟨rfl, rfl, Nat.le_of_ble_eq_true rfl, Nat.le_of_ble_eq_true rfl⟩ rfl (Nat.le_of_ble_eq_true rfl) ⟨Nat.le_of_ble_eq_true rfl, Nat.le_of_ble_eq_true rfl⟩ ?_
  refine am_sub cx [0, 1, 2, 3, 4] rfl ?_
  exact sn0_takeTurned_b257 cx hk70 hres
set_option maxRecDepth 20000 in
theorem sn0_takeTurned_b152 {l : Launch} {G : am_G} {M' : am_Mem} {N : Nat} {k70 : Nat → Nat → Int32 → Int32 → Int32 → am_Mem → Option (Unit × am_Mem)} (cx : am_Ctx l rm0_takeTurned yX0_takeTurned cX0_takeTurned 14 none none M' 0 0 G) (hk70 : ∀ (r0 : Nat) (r1 : Nat) (x2 : Int32) (x3 : Int32) (x7 : Int32) (M : am_Mem), k70 r0 r1 x2 x3 x7 M = some ((), M') → G 70 [(0, .inr (.inr (.inl r0))), (1, .inr (.inr (.inl r1))), (2, .inl x2), (3, .inl x3), (7, .inl x7)] [] M 0 0) {r0 : Nat} {r1 : Nat} {x2 : Int32} {x3 : Int32} {x7 : Int32} {x9 : Int32} {x10 : Int32} {x11 : Int32} {x12 : Int32} {M : am_Mem} (hres : fn0_takeTurned_b152 N k70 r0 r1 x2 x3 x7 x9 x10 x11 x12 M = some ((), M')) : G 152 [(0, .inr (.inr (.inl r0))), (1, .inr (.inr (.inl r1))), (2, .inl x2), (3, .inl x3), (7, .inl x7), (9, .inl x9), (10, .inl x10), (11, .inl x11), (12, .inl x12)] [] M 0 0 := by
  unfold fn0_takeTurned_b152 at hres
  refine am_aload_n cx 1 dX0_takeTurned_152 rfl ?_
  obtain ⟨q1, hres⟩ := am_ck_some hres
  refine am_getR cx dX0_takeTurned_153 flX0_36 (am_ke q1) ?_
  refine am_iload cx 4 dX0_takeTurned_156 rfl ?_
  obtain ⟨q2, hres⟩ := am_ck_some hres
  obtain ⟨q3, hres⟩ := am_ck_some hres
  refine am_iald cx dX0_takeTurned_158 (am_ke q2) q3 ?_
  refine am_iload_n cx 3 dX0_takeTurned_159 rfl ?_
  obtain ⟨q4, hres⟩ := am_ck_some hres
  refine am_idiv cx dX0_takeTurned_160 (of_decide_eq_true q4) ?_
  refine am_istore cx (lv' := [(0, .inr (.inr (.inl r0))), (1, .inr (.inr (.inl r1))), (2, .inl x2), (3, .inl x3), (7, .inl x7), (9, .inl x9), (10, .inl x10), (11, .inl x11), (12, .inl x12), (13, .inl ((am_I M (am_R M r1 9) x7.toNatClampNeg) / x3))]) dX0_takeTurned_161 (Nat.le_of_ble_eq_true rfl) rfl ?_
  exact sn0_takeTurned_b163 cx hk70 hres
set_option maxRecDepth 20000 in
theorem sn0_takeTurned_b141 {l : Launch} {G : am_G} {M' : am_Mem} {N : Nat} {k70 : Nat → Nat → Int32 → Int32 → Int32 → am_Mem → Option (Unit × am_Mem)} (cx : am_Ctx l rm0_takeTurned yX0_takeTurned cX0_takeTurned 14 none none M' 0 0 G) (hk70 : ∀ (r0 : Nat) (r1 : Nat) (x2 : Int32) (x3 : Int32) (x7 : Int32) (M : am_Mem), k70 r0 r1 x2 x3 x7 M = some ((), M') → G 70 [(0, .inr (.inr (.inl r0))), (1, .inr (.inr (.inl r1))), (2, .inl x2), (3, .inl x3), (7, .inl x7)] [] M 0 0) {a0 : Int32} {r0 : Nat} {r1 : Nat} {x2 : Int32} {x3 : Int32} {x7 : Int32} {x9 : Int32} {x10 : Int32} {M : am_Mem} (hres : fn0_takeTurned_b141 N k70 a0 r0 r1 x2 x3 x7 x9 x10 M = some ((), M')) : G 141 [(0, .inr (.inr (.inl r0))), (1, .inr (.inr (.inl r1))), (2, .inl x2), (3, .inl x3), (7, .inl x7), (9, .inl x9), (10, .inl x10)] [.inl a0] M 0 0 := by
  unfold fn0_takeTurned_b141 at hres
  refine am_istore cx (lv' := [(0, .inr (.inr (.inl r0))), (1, .inr (.inr (.inl r1))), (2, .inl x2), (3, .inl x3), (7, .inl x7), (9, .inl x9), (10, .inl x10), (11, .inl a0)]) dX0_takeTurned_141 (Nat.le_of_ble_eq_true rfl) rfl ?_
  refine am_aload_n cx 1 dX0_takeTurned_143 rfl ?_
  obtain ⟨q1, hres⟩ := am_ck_some hres
  refine am_getR cx dX0_takeTurned_144 flX0_35 (am_ke q1) ?_
  refine am_iload cx 4 dX0_takeTurned_147 rfl ?_
  obtain ⟨q2, hres⟩ := am_ck_some hres
  obtain ⟨q3, hres⟩ := am_ck_some hres
  refine am_iald cx dX0_takeTurned_149 (am_ke q2) q3 ?_
  refine am_istore cx (lv' := [(0, .inr (.inr (.inl r0))), (1, .inr (.inr (.inl r1))), (2, .inl x2), (3, .inl x3), (7, .inl x7), (9, .inl x9), (10, .inl x10), (11, .inl a0), (12, .inl (am_I M (am_R M r1 8) x7.toNatClampNeg))]) dX0_takeTurned_150 (Nat.le_of_ble_eq_true rfl) rfl ?_
  exact sn0_takeTurned_b152 cx hk70 hres
set_option maxRecDepth 20000 in
theorem sn0_takeTurned_b124 {l : Launch} {G : am_G} {M' : am_Mem} {N : Nat} {k70 : Nat → Nat → Int32 → Int32 → Int32 → am_Mem → Option (Unit × am_Mem)} (cx : am_Ctx l rm0_takeTurned yX0_takeTurned cX0_takeTurned 14 none none M' 0 0 G) (hk70 : ∀ (r0 : Nat) (r1 : Nat) (x2 : Int32) (x3 : Int32) (x7 : Int32) (M : am_Mem), k70 r0 r1 x2 x3 x7 M = some ((), M') → G 70 [(0, .inr (.inr (.inl r0))), (1, .inr (.inr (.inl r1))), (2, .inl x2), (3, .inl x3), (7, .inl x7)] [] M 0 0) {r0 : Nat} {r1 : Nat} {x2 : Int32} {x3 : Int32} {x7 : Int32} {x8 : Int32} {x9 : Int32} {x10 : Int32} {M : am_Mem} (hres : fn0_takeTurned_b124 N k70 r0 r1 x2 x3 x7 x8 x9 x10 M = some ((), M')) : G 124 [(0, .inr (.inr (.inl r0))), (1, .inr (.inr (.inl r1))), (2, .inl x2), (3, .inl x3), (7, .inl x7), (8, .inl x8), (9, .inl x9), (10, .inl x10)] [] M 0 0 := by
  unfold fn0_takeTurned_b124 at hres
  refine am_iload_n cx 2 dX0_takeTurned_124 rfl ?_
  refine am_iconst cx (v := (4 : Int32)) dX0_takeTurned_125 (by decide) ?_
  refine am_icmp_lt cx (tgt := 139) dX0_takeTurned_126 (by decide) (fun h => ?_) (fun h => ?_)
  · have hres := am_ifp h hres
    refine am_iload cx 5 dX0_takeTurned_139 rfl ?_
    refine am_sub cx [0, 1, 2, 3, 4, 6, 7] rfl ?_
    exact sn0_takeTurned_b141 cx hk70 hres
  · have hres := am_ifn h hres
    refine am_aload_n cx 1 dX0_takeTurned_129 rfl ?_
    obtain ⟨q1, hres⟩ := am_ck_some hres
    refine am_getR cx dX0_takeTurned_130 flX0_34 (am_ke q1) ?_
    refine am_iload cx 4 dX0_takeTurned_133 rfl ?_
    obtain ⟨q2, hres⟩ := am_ck_some hres
    obtain ⟨q3, hres⟩ := am_ck_some hres
    refine am_iald cx dX0_takeTurned_135 (am_ke q2) q3 ?_
    refine am_goto cx (tgt := 141) dX0_takeTurned_136 (by decide) ?_
    refine am_sub cx [0, 1, 2, 3, 4, 6, 7] rfl ?_
    exact sn0_takeTurned_b141 cx hk70 hres
set_option maxRecDepth 20000 in
theorem sn0_takeTurned_b122 {l : Launch} {G : am_G} {M' : am_Mem} {N : Nat} {k70 : Nat → Nat → Int32 → Int32 → Int32 → am_Mem → Option (Unit × am_Mem)} (cx : am_Ctx l rm0_takeTurned yX0_takeTurned cX0_takeTurned 14 none none M' 0 0 G) (hk70 : ∀ (r0 : Nat) (r1 : Nat) (x2 : Int32) (x3 : Int32) (x7 : Int32) (M : am_Mem), k70 r0 r1 x2 x3 x7 M = some ((), M') → G 70 [(0, .inr (.inr (.inl r0))), (1, .inr (.inr (.inl r1))), (2, .inl x2), (3, .inl x3), (7, .inl x7)] [] M 0 0) {a0 : Int32} {r0 : Nat} {r1 : Nat} {x2 : Int32} {x3 : Int32} {x7 : Int32} {x8 : Int32} {x9 : Int32} {M : am_Mem} (hres : fn0_takeTurned_b122 N k70 a0 r0 r1 x2 x3 x7 x8 x9 M = some ((), M')) : G 122 [(0, .inr (.inr (.inl r0))), (1, .inr (.inr (.inl r1))), (2, .inl x2), (3, .inl x3), (7, .inl x7), (8, .inl x8), (9, .inl x9)] [.inl a0] M 0 0 := by
  unfold fn0_takeTurned_b122 at hres
  refine am_istore cx (lv' := [(0, .inr (.inr (.inl r0))), (1, .inr (.inr (.inl r1))), (2, .inl x2), (3, .inl x3), (7, .inl x7), (8, .inl x8), (9, .inl x9), (10, .inl a0)]) dX0_takeTurned_122 (Nat.le_of_ble_eq_true rfl) rfl ?_
  exact sn0_takeTurned_b124 cx hk70 hres
set_option maxRecDepth 20000 in
theorem sn0_takeTurned_b105 {l : Launch} {G : am_G} {M' : am_Mem} {N : Nat} {k70 : Nat → Nat → Int32 → Int32 → Int32 → am_Mem → Option (Unit × am_Mem)} (cx : am_Ctx l rm0_takeTurned yX0_takeTurned cX0_takeTurned 14 none none M' 0 0 G) (hk70 : ∀ (r0 : Nat) (r1 : Nat) (x2 : Int32) (x3 : Int32) (x7 : Int32) (M : am_Mem), k70 r0 r1 x2 x3 x7 M = some ((), M') → G 70 [(0, .inr (.inr (.inl r0))), (1, .inr (.inr (.inl r1))), (2, .inl x2), (3, .inl x3), (7, .inl x7)] [] M 0 0) {r0 : Nat} {r1 : Nat} {x2 : Int32} {x3 : Int32} {x7 : Int32} {x8 : Int32} {x9 : Int32} {M : am_Mem} (hres : fn0_takeTurned_b105 N k70 r0 r1 x2 x3 x7 x8 x9 M = some ((), M')) : G 105 [(0, .inr (.inr (.inl r0))), (1, .inr (.inr (.inl r1))), (2, .inl x2), (3, .inl x3), (7, .inl x7), (8, .inl x8), (9, .inl x9)] [] M 0 0 := by
  unfold fn0_takeTurned_b105 at hres
  refine am_iload_n cx 2 dX0_takeTurned_105 rfl ?_
  refine am_iconst cx (v := (4 : Int32)) dX0_takeTurned_106 (by decide) ?_
  refine am_icmp_lt cx (tgt := 115) dX0_takeTurned_107 (by decide) (fun h => ?_) (fun h => ?_)
  · have hres := am_ifp h hres
    refine am_aload_n cx 1 dX0_takeTurned_115 rfl ?_
    obtain ⟨q1, hres⟩ := am_ck_some hres
    refine am_getR cx dX0_takeTurned_116 flX0_34 (am_ke q1) ?_
    refine am_iload cx 4 dX0_takeTurned_119 rfl ?_
    obtain ⟨q2, hres⟩ := am_ck_some hres
    obtain ⟨q3, hres⟩ := am_ck_some hres
    refine am_iald cx dX0_takeTurned_121 (am_ke q2) q3 ?_
    exact sn0_takeTurned_b122 cx hk70 hres
  · have hres := am_ifn h hres
    refine am_iload cx 5 dX0_takeTurned_110 rfl ?_
    refine am_goto cx (tgt := 122) dX0_takeTurned_112 (by decide) ?_
    exact sn0_takeTurned_b122 cx hk70 hres
set_option maxRecDepth 20000 in
theorem sn0_takeTurned_b92 {l : Launch} {G : am_G} {M' : am_Mem} {N : Nat} {k70 : Nat → Nat → Int32 → Int32 → Int32 → am_Mem → Option (Unit × am_Mem)} (cx : am_Ctx l rm0_takeTurned yX0_takeTurned cX0_takeTurned 14 none none M' 0 0 G) (hk70 : ∀ (r0 : Nat) (r1 : Nat) (x2 : Int32) (x3 : Int32) (x7 : Int32) (M : am_Mem), k70 r0 r1 x2 x3 x7 M = some ((), M') → G 70 [(0, .inr (.inr (.inl r0))), (1, .inr (.inr (.inl r1))), (2, .inl x2), (3, .inl x3), (7, .inl x7)] [] M 0 0) {r0 : Nat} {r1 : Nat} {x2 : Int32} {x3 : Int32} {x7 : Int32} {x8 : Int32} {M : am_Mem} (hres : fn0_takeTurned_b92 N k70 r0 r1 x2 x3 x7 x8 M = some ((), M')) : G 92 [(0, .inr (.inr (.inl r0))), (1, .inr (.inr (.inl r1))), (2, .inl x2), (3, .inl x3), (7, .inl x7), (8, .inl x8)] [] M 0 0 := by
  unfold fn0_takeTurned_b92 at hres
  refine am_aload_n cx 1 dX0_takeTurned_92 rfl ?_
  obtain ⟨q1, hres⟩ := am_ck_some hres
  refine am_getI cx dX0_takeTurned_93 flX0_41 (am_ke q1) ?_
  refine am_aload_n cx 1 dX0_takeTurned_96 rfl ?_
  refine am_iload cx 4 dX0_takeTurned_97 rfl ?_
  obtain ⟨v2, M3, q4, hres⟩ := am_bd_some hres
  refine am_callV1 cx [.inl x7] dX0_takeTurned_99 cvX0_51 (mt10_bottom q4) (am_ke q1) ⟨rfl, rfl, Nat.le_of_ble_eq_true rfl, Nat.le_of_ble_eq_true rfl⟩ rfl (Nat.le_of_ble_eq_true rfl) ⟨Nat.le_of_ble_eq_true rfl, Nat.le_of_ble_eq_true rfl⟩ ?_
  refine am_isub cx dX0_takeTurned_102 ?_
  refine am_istore cx (lv' := [(0, .inr (.inr (.inl r0))), (1, .inr (.inr (.inl r1))), (2, .inl x2), (3, .inl x3), (7, .inl x7), (8, .inl x8), (9, .inl ((am_I M r1 6) - v2))]) dX0_takeTurned_103 (Nat.le_of_ble_eq_true rfl) rfl ?_
  exact sn0_takeTurned_b105 cx hk70 hres
set_option maxRecDepth 20000 in
theorem sn0_takeTurned_b70B {l : Launch} {G : am_G} {M' : am_Mem} {N : Nat} {k70 : Nat → Nat → Int32 → Int32 → Int32 → am_Mem → Option (Unit × am_Mem)} (cx : am_Ctx l rm0_takeTurned yX0_takeTurned cX0_takeTurned 14 none none M' 0 0 G) (hk70 : ∀ (r0 : Nat) (r1 : Nat) (x2 : Int32) (x3 : Int32) (x7 : Int32) (M : am_Mem), k70 r0 r1 x2 x3 x7 M = some ((), M') → G 70 [(0, .inr (.inr (.inl r0))), (1, .inr (.inr (.inl r1))), (2, .inl x2), (3, .inl x3), (7, .inl x7)] [] M 0 0) {r0 : Nat} {r1 : Nat} {x2 : Int32} {x3 : Int32} {x7 : Int32} {M : am_Mem} (hres : fn0_takeTurned_b70B N k70 r0 r1 x2 x3 x7 M = some ((), M')) : G 70 [(0, .inr (.inr (.inl r0))), (1, .inr (.inr (.inl r1))), (2, .inl x2), (3, .inl x3), (7, .inl x7)] [] M 0 0 := by
  unfold fn0_takeTurned_b70B at hres
  refine am_iload cx 4 dX0_takeTurned_70 rfl ?_
  refine am_aload_n cx 1 dX0_takeTurned_72 rfl ?_
  obtain ⟨q1, hres⟩ := am_ck_some hres
  refine am_getI cx dX0_takeTurned_73 flX0_31 (am_ke q1) ?_
  refine am_icmp_ge cx (tgt := 263) dX0_takeTurned_76 (by decide) (fun h => ?_) (fun h => ?_)
  · have hres := am_ifp h hres
    refine am_aload_n cx 0 dX0_takeTurned_263 rfl ?_
    obtain ⟨q2, hres⟩ := am_ck_some hres
    obtain ⟨v3, M4, q5, hres⟩ := am_bd_some hres
    refine am_callV0 cx [] dX0_takeTurned_264 cvX0_54 (mt0_sortAsCode q5) (am_ke q2) ⟨rfl, rfl, Nat.le_of_ble_eq_true rfl, Nat.le_of_ble_eq_true rfl⟩ rfl (Nat.le_of_ble_eq_true rfl) ⟨Nat.le_of_ble_eq_true rfl, Nat.le_of_ble_eq_true rfl⟩ ?_
    obtain ⟨-, rfl⟩ := am_fin hres
    exact am_vret cx dX0_takeTurned_267
  · have hres := am_ifn h hres
    refine am_aload_n cx 1 dX0_takeTurned_79 rfl ?_
    refine am_getI cx dX0_takeTurned_80 flX0_42 (am_ke q1) ?_
    refine am_aload_n cx 1 dX0_takeTurned_83 rfl ?_
    refine am_iload cx 4 dX0_takeTurned_84 rfl ?_
    obtain ⟨v6, M7, q8, hres⟩ := am_bd_some hres
    refine am_callV1 cx [.inl x7] dX0_takeTurned_86 cvX0_47 (mt10_right q8) (am_ke q1) ⟨rfl, rfl, Nat.le_of_ble_eq_true rfl, Nat.le_of_ble_eq_true rfl⟩ rfl (Nat.le_of_ble_eq_true rfl) ⟨Nat.le_of_ble_eq_true rfl, Nat.le_of_ble_eq_true rfl⟩ ?_
    refine am_isub cx dX0_takeTurned_89 ?_
    refine am_istore cx (lv' := [(0, .inr (.inr (.inl r0))), (1, .inr (.inr (.inl r1))), (2, .inl x2), (3, .inl x3), (7, .inl x7), (8, .inl ((am_I M r1 5) - v6))]) dX0_takeTurned_90 (Nat.le_of_ble_eq_true rfl) rfl ?_
    exact sn0_takeTurned_b92 cx hk70 hres
set_option maxRecDepth 20000 in
theorem sn0_takeTurned_b70 {l : Launch} {G : am_G} {M' : am_Mem} {N : Nat}  (cx : am_Ctx l rm0_takeTurned yX0_takeTurned cX0_takeTurned 14 none none M' 0 0 G)  (i : Nat) : ∀ (r0 : Nat) (r1 : Nat) (x2 : Int32) (x3 : Int32) (x7 : Int32) (M : am_Mem), fn0_takeTurned_b70 N  i r0 r1 x2 x3 x7 M = some ((), M') → G 70 [(0, .inr (.inr (.inl r0))), (1, .inr (.inr (.inl r1))), (2, .inl x2), (3, .inl x3), (7, .inl x7)] [] M 0 0 := by
  induction i with
  | zero => intro r0 r1 x2 x3 x7 M hres; exact am_no hres
  | succ i ih => intro r0 r1 x2 x3 x7 M hres; exact sn0_takeTurned_b70B cx ih hres
set_option maxRecDepth 20000 in
theorem sn0_takeTurned_b55 {l : Launch} {G : am_G} {M' : am_Mem} {N : Nat}  (cx : am_Ctx l rm0_takeTurned yX0_takeTurned cX0_takeTurned 14 none none M' 0 0 G)  {r0 : Nat} {r1 : Nat} {x2 : Int32} {x3 : Int32} {x5 : Int32} {x6 : Int32} {M : am_Mem} (hres : fn0_takeTurned_b55 N  r0 r1 x2 x3 x5 x6 M = some ((), M')) : G 55 [(0, .inr (.inr (.inl r0))), (1, .inr (.inr (.inl r1))), (2, .inl x2), (3, .inl x3), (5, .inl x5), (6, .inl x6)] [] M 0 0 := by
  unfold fn0_takeTurned_b55 at hres
  refine am_aload_n cx 0 dX0_takeTurned_55 rfl ?_
  refine am_iload cx 4 dX0_takeTurned_56 rfl ?_
  refine am_iload_n cx 3 dX0_takeTurned_58 rfl ?_
  obtain ⟨q1, hres⟩ := am_ck_some hres
  refine am_idiv cx dX0_takeTurned_59 (of_decide_eq_true q1) ?_
  refine am_iload cx 5 dX0_takeTurned_60 rfl ?_
  refine am_iload_n cx 3 dX0_takeTurned_62 rfl ?_
  obtain ⟨q2, hres⟩ := am_ck_some hres
  refine am_idiv cx dX0_takeTurned_63 (of_decide_eq_true q2) ?_
  obtain ⟨q3, hres⟩ := am_ck_some hres
  obtain ⟨v4, M5, q6, hres⟩ := am_bd_some hres
  refine am_callV0 cx [.inl (x5 / x3), .inl (x6 / x3)] dX0_takeTurned_64 cvX0_43 (mt0_begin q6) (am_ke q3) ⟨rfl, rfl, Nat.le_of_ble_eq_true rfl, Nat.le_of_ble_eq_true rfl⟩ rfl (Nat.le_of_ble_eq_true rfl) ⟨Nat.le_of_ble_eq_true rfl, Nat.le_of_ble_eq_true rfl⟩ ?_
  refine am_iconst cx (v := (0 : Int32)) dX0_takeTurned_67 (by decide) ?_
  refine am_istore cx (lv' := [(0, .inr (.inr (.inl r0))), (1, .inr (.inr (.inl r1))), (2, .inl x2), (3, .inl x3), (5, .inl x5), (6, .inl x6), (7, .inl (0 : Int32))]) dX0_takeTurned_68 (Nat.le_of_ble_eq_true rfl) rfl ?_
  refine am_sub cx [0, 1, 2, 3, 6] rfl ?_
  exact sn0_takeTurned_b70 cx  N _ _ _ _ _ _ hres
set_option maxRecDepth 20000 in
theorem sn0_takeTurned_b53 {l : Launch} {G : am_G} {M' : am_Mem} {N : Nat}  (cx : am_Ctx l rm0_takeTurned yX0_takeTurned cX0_takeTurned 14 none none M' 0 0 G)  {a0 : Int32} {r0 : Nat} {r1 : Nat} {x2 : Int32} {x3 : Int32} {x5 : Int32} {M : am_Mem} (hres : fn0_takeTurned_b53 N  a0 r0 r1 x2 x3 x5 M = some ((), M')) : G 53 [(0, .inr (.inr (.inl r0))), (1, .inr (.inr (.inl r1))), (2, .inl x2), (3, .inl x3), (5, .inl x5)] [.inl a0] M 0 0 := by
  unfold fn0_takeTurned_b53 at hres
  refine am_istore cx (lv' := [(0, .inr (.inr (.inl r0))), (1, .inr (.inr (.inl r1))), (2, .inl x2), (3, .inl x3), (5, .inl x5), (6, .inl a0)]) dX0_takeTurned_53 (Nat.le_of_ble_eq_true rfl) rfl ?_
  exact sn0_takeTurned_b55 cx  hres
set_option maxRecDepth 20000 in
theorem sn0_takeTurned_b37 {l : Launch} {G : am_G} {M' : am_Mem} {N : Nat}  (cx : am_Ctx l rm0_takeTurned yX0_takeTurned cX0_takeTurned 14 none none M' 0 0 G)  {r0 : Nat} {r1 : Nat} {x2 : Int32} {x3 : Int32} {x4 : Int32} {x5 : Int32} {M : am_Mem} (hres : fn0_takeTurned_b37 N  r0 r1 x2 x3 x4 x5 M = some ((), M')) : G 37 [(0, .inr (.inr (.inl r0))), (1, .inr (.inr (.inl r1))), (2, .inl x2), (3, .inl x3), (4, .inl x4), (5, .inl x5)] [] M 0 0 := by
  unfold fn0_takeTurned_b37 at hres
  refine am_iload cx 4 dX0_takeTurned_37 rfl ?_
  refine am_if_eq cx (tgt := 49) dX0_takeTurned_39 (by decide) (fun h => ?_) (fun h => ?_)
  · have hres := am_ifp h hres
    refine am_aload_n cx 1 dX0_takeTurned_49 rfl ?_
    obtain ⟨q1, hres⟩ := am_ck_some hres
    refine am_getI cx dX0_takeTurned_50 flX0_41 (am_ke q1) ?_
    refine am_sub cx [0, 1, 2, 3, 5] rfl ?_
    exact sn0_takeTurned_b53 cx  hres
  · have hres := am_ifn h hres
    refine am_aload_n cx 1 dX0_takeTurned_42 rfl ?_
    obtain ⟨q2, hres⟩ := am_ck_some hres
    refine am_getI cx dX0_takeTurned_43 flX0_42 (am_ke q2) ?_
    refine am_goto cx (tgt := 53) dX0_takeTurned_46 (by decide) ?_
    refine am_sub cx [0, 1, 2, 3, 5] rfl ?_
    exact sn0_takeTurned_b53 cx  hres
set_option maxRecDepth 20000 in
theorem sn0_takeTurned_b35 {l : Launch} {G : am_G} {M' : am_Mem} {N : Nat}  (cx : am_Ctx l rm0_takeTurned yX0_takeTurned cX0_takeTurned 14 none none M' 0 0 G)  {a0 : Int32} {r0 : Nat} {r1 : Nat} {x2 : Int32} {x3 : Int32} {x4 : Int32} {M : am_Mem} (hres : fn0_takeTurned_b35 N  a0 r0 r1 x2 x3 x4 M = some ((), M')) : G 35 [(0, .inr (.inr (.inl r0))), (1, .inr (.inr (.inl r1))), (2, .inl x2), (3, .inl x3), (4, .inl x4)] [.inl a0] M 0 0 := by
  unfold fn0_takeTurned_b35 at hres
  refine am_istore cx (lv' := [(0, .inr (.inr (.inl r0))), (1, .inr (.inr (.inl r1))), (2, .inl x2), (3, .inl x3), (4, .inl x4), (5, .inl a0)]) dX0_takeTurned_35 (Nat.le_of_ble_eq_true rfl) rfl ?_
  exact sn0_takeTurned_b37 cx  hres
set_option maxRecDepth 20000 in
theorem sn0_takeTurned_b17 {l : Launch} {G : am_G} {M' : am_Mem} {N : Nat}  (cx : am_Ctx l rm0_takeTurned yX0_takeTurned cX0_takeTurned 14 none none M' 0 0 G)  {a0 : Int32} {r0 : Nat} {r1 : Nat} {x2 : Int32} {x3 : Int32} {M : am_Mem} (hres : fn0_takeTurned_b17 N  a0 r0 r1 x2 x3 M = some ((), M')) : G 17 [(0, .inr (.inr (.inl r0))), (1, .inr (.inr (.inl r1))), (2, .inl x2), (3, .inl x3)] [.inl a0] M 0 0 := by
  unfold fn0_takeTurned_b17 at hres
  refine am_istore cx (lv' := [(0, .inr (.inr (.inl r0))), (1, .inr (.inr (.inl r1))), (2, .inl x2), (3, .inl x3), (4, .inl a0)]) dX0_takeTurned_17 (Nat.le_of_ble_eq_true rfl) rfl ?_
  refine am_iload cx 4 dX0_takeTurned_19 rfl ?_
  refine am_if_eq cx (tgt := 31) dX0_takeTurned_21 (by decide) (fun h => ?_) (fun h => ?_)
  · have hres := am_ifp h hres
    refine am_aload_n cx 1 dX0_takeTurned_31 rfl ?_
    obtain ⟨q1, hres⟩ := am_ck_some hres
    refine am_getI cx dX0_takeTurned_32 flX0_42 (am_ke q1) ?_
    exact sn0_takeTurned_b35 cx  hres
  · have hres := am_ifn h hres
    refine am_aload_n cx 1 dX0_takeTurned_24 rfl ?_
    obtain ⟨q2, hres⟩ := am_ck_some hres
    refine am_getI cx dX0_takeTurned_25 flX0_41 (am_ke q2) ?_
    refine am_goto cx (tgt := 35) dX0_takeTurned_28 (by decide) ?_
    exact sn0_takeTurned_b35 cx  hres
set_option maxRecDepth 20000 in
theorem sn0_takeTurned_b0 {l : Launch} {G : am_G} {M' : am_Mem} {N : Nat}  (cx : am_Ctx l rm0_takeTurned yX0_takeTurned cX0_takeTurned 14 none none M' 0 0 G)  {r0 : Nat} {r1 : Nat} {x2 : Int32} {x3 : Int32} {M : am_Mem} (hres : fn0_takeTurned_b0 N  r0 r1 x2 x3 M = some ((), M')) : G 0 [(0, .inr (.inr (.inl r0))), (1, .inr (.inr (.inl r1))), (2, .inl x2), (3, .inl x3)] [] M 0 0 := by
  unfold fn0_takeTurned_b0 at hres
  refine am_iload_n cx 3 dX0_takeTurned_0 rfl ?_
  refine am_if_ne cx (tgt := 5) dX0_takeTurned_1 (by decide) (fun h => ?_) (fun h => ?_)
  · have hres := am_ifn h hres
    refine am_iload_n cx 2 dX0_takeTurned_5 rfl ?_
    refine am_iconst cx (v := (1 : Int32)) dX0_takeTurned_6 (by decide) ?_
    refine am_iand cx dX0_takeTurned_7 ?_
    refine am_iconst cx (v := (1 : Int32)) dX0_takeTurned_8 (by decide) ?_
    refine am_icmp_ne cx (tgt := 16) dX0_takeTurned_9 (by decide) (fun h => ?_) (fun h => ?_)
    · have hres := am_ifn h hres
      refine am_iconst cx (v := (0 : Int32)) dX0_takeTurned_16 (by decide) ?_
      exact sn0_takeTurned_b17 cx  hres
    · have hres := am_ifp h hres
      refine am_iconst cx (v := (1 : Int32)) dX0_takeTurned_12 (by decide) ?_
      refine am_goto cx (tgt := 17) dX0_takeTurned_13 (by decide) ?_
      exact sn0_takeTurned_b17 cx  hres
  · have hres := am_ifp h hres
    obtain ⟨-, rfl⟩ := am_fin hres
    exact am_vret cx dX0_takeTurned_4
set_option maxRecDepth 20000 in
theorem mt0_takeTurned {l : Launch} {M M' : am_Mem} {N : Nat} {r0 : Nat} {r1 : Nat} {x2 : Int32} {x3 : Int32} (h : fn0_takeTurned N M r0 r1 x2 x3 = some ((), M')) : am_Met l yX0_takeTurned cX0_takeTurned 14 none rm0_takeTurned 0 0 [.inr (.inr (.inl r0)), .inr (.inr (.inl r1)), .inl x2, .inl x3] M none M' := am_mk (by decide) (Nat.le_of_ble_eq_true rfl) (fun G cx => (sn0_takeTurned_b0 cx h))
-- SquareCuts$GroupLayer.layGroup
def fn1_layGroup_b77 (N : Nat)   (M : am_Mem) : Option (Unit × am_Mem) :=
  some ((), M)
def fn1_layGroup_b10B (N : Nat) (k10 : Nat → Nat → Nat → Int32 → Nat → Int32 → Int32 → am_Mem → Option (Unit × am_Mem)) (r0 : Nat) (r1 : Nat) (r2 : Nat) (x3 : Int32) (r4 : Nat) (x5 : Int32) (x6 : Int32) (M : am_Mem) : Option (Unit × am_Mem) :=
  if x3 ≤ x6 then fn1_layGroup_b77 N   M else am_ck (am_k M r2 14) (am_ck (am_in x6 (am_L M r2)) (am_ck (am_in x5 (am_L M r2)) (if (am_I M r2 x6.toNatClampNeg) = (am_I M r2 x5.toNatClampNeg) then am_ck (am_k M r0 1) (am_ck (am_k M (am_R M r0 0) 6) (am_bd (fn6_notchLeft M (am_R M r0 0)) (fun v6 M7 => am_ck (am_k M7 r0 1) (am_ck (am_k M7 (am_R M7 r0 0) 6) (am_bd (fn6_notchDepth M7 (am_R M7 r0 0)) (fun v11 M12 => am_ck (am_k M12 r1 14) (am_ck (am_in x6 (am_L M12 r1)) (am_ck (am_k M12 r4 0) (am_bd (fn0_add M12 r4 v6 v11 (am_I M12 r1 x6.toNatClampNeg)) (fun v17 M18 => am_ck (am_k M18 r0 1) (am_ck (am_k M18 r1 14) (am_ck (am_in x6 (am_L M18 r1)) (am_ck (am_k M18 (am_R M18 r0 0) 6) (am_bd (fn6_lay N M18 (am_R M18 r0 0) (am_I M18 r1 x6.toNatClampNeg)) (fun v24 M25 => am_ck (am_k M25 r0 1) (k10 r0 r1 r2 x3 r4 x5 (x6 + (1 : Int32)) (am_wI M25 r0 1 ((am_I M25 r0 1) + (1 : Int32))))))))))))))))))) else fn1_layGroup_b77 N   M)))
def fn1_layGroup_b10 (N : Nat)  : Nat → Nat → Nat → Nat → Int32 → Nat → Int32 → Int32 → am_Mem → Option (Unit × am_Mem)
  | 0 => fun _ _ _ _ _ _ _ _ => none
  | i + 1 => fn1_layGroup_b10B N (fn1_layGroup_b10 N  i)
def fn1_layGroup_b6 (N : Nat)  (r0 : Nat) (r1 : Nat) (r2 : Nat) (x3 : Int32) (r4 : Nat) (x5 : Int32) (M : am_Mem) : Option (Unit × am_Mem) :=
  fn1_layGroup_b10 N  N r0 r1 r2 x3 r4 x5 x5 M
def fn1_layGroup_b0 (N : Nat)  (r0 : Nat) (r1 : Nat) (r2 : Nat) (x3 : Int32) (r4 : Nat) (M : am_Mem) : Option (Unit × am_Mem) :=
  am_ck (am_k M r0 1) (fn1_layGroup_b6 N  r0 r1 r2 x3 r4 (am_I M r0 1) M)
def fn1_layGroup (N : Nat) (M : am_Mem) (r0 : Nat) (r1 : Nat) (r2 : Nat) (x3 : Int32) (r4 : Nat) : Option (Unit × am_Mem) := fn1_layGroup_b0 N r0 r1 r2 x3 r4 M
def rm1_layGroup : Room := { frames := 2, cells := 0, slots := 0, locals := 45 }
set_option maxRecDepth 20000 in
theorem sn1_layGroup_b77 {l : Launch} {G : am_G} {M' : am_Mem} {N : Nat}  (cx : am_Ctx l rm1_layGroup yX1_layGroup cX1_layGroup 7 none none M' 0 0 G)   {M : am_Mem} (hres : fn1_layGroup_b77 N   M = some ((), M')) : G 77 [] [] M 0 0 := by
  unfold fn1_layGroup_b77 at hres
  obtain ⟨-, rfl⟩ := am_fin hres
  exact am_vret cx dX1_layGroup_77
set_option maxRecDepth 20000 in
theorem sn1_layGroup_b10B {l : Launch} {G : am_G} {M' : am_Mem} {N : Nat} {k10 : Nat → Nat → Nat → Int32 → Nat → Int32 → Int32 → am_Mem → Option (Unit × am_Mem)} (cx : am_Ctx l rm1_layGroup yX1_layGroup cX1_layGroup 7 none none M' 0 0 G) (hk10 : ∀ (r0 : Nat) (r1 : Nat) (r2 : Nat) (x3 : Int32) (r4 : Nat) (x5 : Int32) (x6 : Int32) (M : am_Mem), k10 r0 r1 r2 x3 r4 x5 x6 M = some ((), M') → G 10 [(0, .inr (.inr (.inl r0))), (1, .inr (.inr (.inl r1))), (2, .inr (.inr (.inl r2))), (3, .inl x3), (4, .inr (.inr (.inl r4))), (5, .inl x5), (6, .inl x6)] [] M 0 0) {r0 : Nat} {r1 : Nat} {r2 : Nat} {x3 : Int32} {r4 : Nat} {x5 : Int32} {x6 : Int32} {M : am_Mem} (hres : fn1_layGroup_b10B N k10 r0 r1 r2 x3 r4 x5 x6 M = some ((), M')) : G 10 [(0, .inr (.inr (.inl r0))), (1, .inr (.inr (.inl r1))), (2, .inr (.inr (.inl r2))), (3, .inl x3), (4, .inr (.inr (.inl r4))), (5, .inl x5), (6, .inl x6)] [] M 0 0 := by
  unfold fn1_layGroup_b10B at hres
  refine am_iload cx 6 dX1_layGroup_10 rfl ?_
  refine am_iload_n cx 3 dX1_layGroup_12 rfl ?_
  refine am_icmp_ge cx (tgt := 77) dX1_layGroup_13 (by decide) (fun h => ?_) (fun h => ?_)
  · have hres := am_ifp h hres
    refine am_sub cx [] rfl ?_
    exact sn1_layGroup_b77 cx  hres
  · have hres := am_ifn h hres
    refine am_aload_n cx 2 dX1_layGroup_16 rfl ?_
    refine am_iload cx 6 dX1_layGroup_17 rfl ?_
    obtain ⟨q1, hres⟩ := am_ck_some hres
    obtain ⟨q2, hres⟩ := am_ck_some hres
    refine am_iald cx dX1_layGroup_19 (am_ke q1) q2 ?_
    refine am_aload_n cx 2 dX1_layGroup_20 rfl ?_
    refine am_iload cx 5 dX1_layGroup_21 rfl ?_
    obtain ⟨q3, hres⟩ := am_ck_some hres
    refine am_iald cx dX1_layGroup_23 (am_ke q1) q3 ?_
    refine am_icmp_ne cx (tgt := 77) dX1_layGroup_24 (by decide) (fun h => ?_) (fun h => ?_)
    · have hres := am_ifn h hres
      refine am_sub cx [] rfl ?_
      exact sn1_layGroup_b77 cx  hres
    · have hres := am_ifp h hres
      refine am_aload cx 4 dX1_layGroup_27 rfl ?_
      refine am_aload_n cx 0 dX1_layGroup_29 rfl ?_
      obtain ⟨q4, hres⟩ := am_ck_some hres
      refine am_getR cx dX1_layGroup_30 flX1_14 (am_ke q4) ?_
      obtain ⟨q5, hres⟩ := am_ck_some hres
      obtain ⟨v6, M7, q8, hres⟩ := am_bd_some hres
      refine am_callV1 cx [] dX1_layGroup_33 cvX1_54 (mt6_notchLeft q8) (am_ke q5) ⟨rfl, rfl, Nat.le_of_ble_eq_true rfl, Nat.le_of_ble_eq_true rfl⟩ rfl (Nat.le_of_ble_eq_true rfl) ⟨Nat.le_of_ble_eq_true rfl, Nat.le_of_ble_eq_true rfl⟩ ?_
      refine am_aload_n cx 0 dX1_layGroup_36 rfl ?_
      obtain ⟨q9, hres⟩ := am_ck_some hres
      refine am_getR cx dX1_layGroup_37 flX1_14 (am_ke q9) ?_
      obtain ⟨q10, hres⟩ := am_ck_some hres
      obtain ⟨v11, M12, q13, hres⟩ := am_bd_some hres
      refine am_callV1 cx [] dX1_layGroup_40 cvX1_45 (mt6_notchDepth q13) (am_ke q10) ⟨rfl, rfl, Nat.le_of_ble_eq_true rfl, Nat.le_of_ble_eq_true rfl⟩ rfl (Nat.le_of_ble_eq_true rfl) ⟨Nat.le_of_ble_eq_true rfl, Nat.le_of_ble_eq_true rfl⟩ ?_
      refine am_aload_n cx 1 dX1_layGroup_43 rfl ?_
      refine am_iload cx 6 dX1_layGroup_44 rfl ?_
      obtain ⟨q14, hres⟩ := am_ck_some hres
      obtain ⟨q15, hres⟩ := am_ck_some hres
      refine am_iald cx dX1_layGroup_46 (am_ke q14) q15 ?_
      obtain ⟨q16, hres⟩ := am_ck_some hres
      obtain ⟨v17, M18, q19, hres⟩ := am_bd_some hres
      refine am_callV0 cx [.inl v6, .inl v11, .inl (am_I M12 r1 x6.toNatClampNeg)] dX1_layGroup_47 cvX1_57 (mt0_add q19) (am_ke q16) ⟨rfl, rfl, Nat.le_of_ble_eq_true rfl, Nat.le_of_ble_eq_true rfl⟩ rfl (Nat.le_of_ble_eq_true rfl) ⟨Nat.le_of_ble_eq_true rfl, Nat.le_of_ble_eq_true rfl⟩ ?_
      refine am_aload_n cx 0 dX1_layGroup_50 rfl ?_
      obtain ⟨q20, hres⟩ := am_ck_some hres
      refine am_getR cx dX1_layGroup_51 flX1_14 (am_ke q20) ?_
      refine am_aload_n cx 1 dX1_layGroup_54 rfl ?_
      refine am_iload cx 6 dX1_layGroup_55 rfl ?_
      obtain ⟨q21, hres⟩ := am_ck_some hres
      obtain ⟨q22, hres⟩ := am_ck_some hres
      refine am_iald cx dX1_layGroup_57 (am_ke q21) q22 ?_
      obtain ⟨q23, hres⟩ := am_ck_some hres
      obtain ⟨v24, M25, q26, hres⟩ := am_bd_some hres
      refine am_callV0 cx [.inl (am_I M18 r1 x6.toNatClampNeg)] dX1_layGroup_58 cvX1_61 (mt6_lay q26) (am_ke q23) ⟨rfl, rfl, Nat.le_of_ble_eq_true rfl, Nat.le_of_ble_eq_true rfl⟩ rfl (Nat.le_of_ble_eq_true rfl) ⟨Nat.le_of_ble_eq_true rfl, Nat.le_of_ble_eq_true rfl⟩ ?_
      refine am_aload_n cx 0 dX1_layGroup_61 rfl ?_
      refine am_dup cx dX1_layGroup_62 rfl ?_
      obtain ⟨q27, hres⟩ := am_ck_some hres
      refine am_getI cx dX1_layGroup_63 flX1_20 (am_ke q27) ?_
      refine am_iconst cx (v := (1 : Int32)) dX1_layGroup_66 (by decide) ?_
      refine am_iadd cx dX1_layGroup_67 ?_
      refine am_putI cx dX1_layGroup_68 fpX1_20 (fun h => by cases h) (am_ke q27) ?_
      refine am_iincw cx (lv' := [(0, .inr (.inr (.inl r0))), (1, .inr (.inr (.inl r1))), (2, .inr (.inr (.inl r2))), (3, .inl x3), (4, .inr (.inr (.inl r4))), (5, .inl x5), (6, .inl (x6 + (1 : Int32)))]) (w := (1 : Int32)) 6 dX1_layGroup_71 (by decide) rfl (Nat.le_of_ble_eq_true rfl) rfl ?_
      refine am_goto cx (tgt := 10) dX1_layGroup_74 (by decide) ?_
      exact hk10 _ _ _ _ _ _ _ _ hres
set_option maxRecDepth 20000 in
theorem sn1_layGroup_b10 {l : Launch} {G : am_G} {M' : am_Mem} {N : Nat}  (cx : am_Ctx l rm1_layGroup yX1_layGroup cX1_layGroup 7 none none M' 0 0 G)  (i : Nat) : ∀ (r0 : Nat) (r1 : Nat) (r2 : Nat) (x3 : Int32) (r4 : Nat) (x5 : Int32) (x6 : Int32) (M : am_Mem), fn1_layGroup_b10 N  i r0 r1 r2 x3 r4 x5 x6 M = some ((), M') → G 10 [(0, .inr (.inr (.inl r0))), (1, .inr (.inr (.inl r1))), (2, .inr (.inr (.inl r2))), (3, .inl x3), (4, .inr (.inr (.inl r4))), (5, .inl x5), (6, .inl x6)] [] M 0 0 := by
  induction i with
  | zero => intro r0 r1 r2 x3 r4 x5 x6 M hres; exact am_no hres
  | succ i ih => intro r0 r1 r2 x3 r4 x5 x6 M hres; exact sn1_layGroup_b10B cx ih hres
set_option maxRecDepth 20000 in
theorem sn1_layGroup_b6 {l : Launch} {G : am_G} {M' : am_Mem} {N : Nat}  (cx : am_Ctx l rm1_layGroup yX1_layGroup cX1_layGroup 7 none none M' 0 0 G)  {r0 : Nat} {r1 : Nat} {r2 : Nat} {x3 : Int32} {r4 : Nat} {x5 : Int32} {M : am_Mem} (hres : fn1_layGroup_b6 N  r0 r1 r2 x3 r4 x5 M = some ((), M')) : G 6 [(0, .inr (.inr (.inl r0))), (1, .inr (.inr (.inl r1))), (2, .inr (.inr (.inl r2))), (3, .inl x3), (4, .inr (.inr (.inl r4))), (5, .inl x5)] [] M 0 0 := by
  unfold fn1_layGroup_b6 at hres
  refine am_iload cx 5 dX1_layGroup_6 rfl ?_
  refine am_istore cx (lv' := [(0, .inr (.inr (.inl r0))), (1, .inr (.inr (.inl r1))), (2, .inr (.inr (.inl r2))), (3, .inl x3), (4, .inr (.inr (.inl r4))), (5, .inl x5), (6, .inl x5)]) dX1_layGroup_8 (Nat.le_of_ble_eq_true rfl) rfl ?_
  exact sn1_layGroup_b10 cx  N _ _ _ _ _ _ _ _ hres
set_option maxRecDepth 20000 in
theorem sn1_layGroup_b0 {l : Launch} {G : am_G} {M' : am_Mem} {N : Nat}  (cx : am_Ctx l rm1_layGroup yX1_layGroup cX1_layGroup 7 none none M' 0 0 G)  {r0 : Nat} {r1 : Nat} {r2 : Nat} {x3 : Int32} {r4 : Nat} {M : am_Mem} (hres : fn1_layGroup_b0 N  r0 r1 r2 x3 r4 M = some ((), M')) : G 0 [(0, .inr (.inr (.inl r0))), (1, .inr (.inr (.inl r1))), (2, .inr (.inr (.inl r2))), (3, .inl x3), (4, .inr (.inr (.inl r4)))] [] M 0 0 := by
  unfold fn1_layGroup_b0 at hres
  refine am_aload_n cx 0 dX1_layGroup_0 rfl ?_
  obtain ⟨q1, hres⟩ := am_ck_some hres
  refine am_getI cx dX1_layGroup_1 flX1_20 (am_ke q1) ?_
  refine am_istore cx (lv' := [(0, .inr (.inr (.inl r0))), (1, .inr (.inr (.inl r1))), (2, .inr (.inr (.inl r2))), (3, .inl x3), (4, .inr (.inr (.inl r4))), (5, .inl (am_I M r0 1))]) dX1_layGroup_4 (Nat.le_of_ble_eq_true rfl) rfl ?_
  exact sn1_layGroup_b6 cx  hres
set_option maxRecDepth 20000 in
theorem mt1_layGroup {l : Launch} {M M' : am_Mem} {N : Nat} {r0 : Nat} {r1 : Nat} {r2 : Nat} {x3 : Int32} {r4 : Nat} (h : fn1_layGroup N M r0 r1 r2 x3 r4 = some ((), M')) : am_Met l yX1_layGroup cX1_layGroup 7 none rm1_layGroup 0 0 [.inr (.inr (.inl r0)), .inr (.inr (.inl r1)), .inr (.inr (.inl r2)), .inl x3, .inr (.inr (.inl r4))] M none M' := am_mk (by decide) (Nat.le_of_ble_eq_true rfl) (fun G cx => (sn1_layGroup_b0 cx h))
-- SquareCuts$LineTable.build
def fn2_build_b64B (N : Nat) (k64 : Nat → Nat → Int32 → am_Mem → Option (Unit × am_Mem)) (r0 : Nat) (r1 : Nat) (x2 : Int32) (M : am_Mem) : Option (Unit × am_Mem) :=
  am_ck (am_k M r1 10) (if (am_I M r1 4) ≤ x2 then am_ck (am_k M r0 2) (am_bd (fn2_mergeSides N M r0) (fun v3 M4 => some ((), M4))) else am_bd (fn10_bottom M r1 x2) (fun v6 M7 => am_ck (am_k M7 r1 10) (am_ck (am_k M7 (am_R M7 r1 7) 14) (am_ck (am_in x2 (am_L M7 (am_R M7 r1 7))) (am_bd (fn10_right M7 r1 x2) (fun v12 M13 => am_ck (am_k M13 r1 10) (am_ck (am_k M13 (am_R M13 r1 9) 14) (am_ck (am_in x2 (am_L M13 (am_R M13 r1 9))) (am_ck (am_k M13 r0 2) (am_bd (fn2_insertSide N M13 r0 v6 (am_I M7 (am_R M7 r1 7) x2.toNatClampNeg) v12 (-(am_I M13 (am_R M13 r1 9) x2.toNatClampNeg))) (fun v19 M20 => k64 r0 r1 (x2 + (1 : Int32)) M20)))))))))))
def fn2_build_b64 (N : Nat)  : Nat → Nat → Nat → Int32 → am_Mem → Option (Unit × am_Mem)
  | 0 => fun _ _ _ _ => none
  | i + 1 => fn2_build_b64B N (fn2_build_b64 N  i)
def fn2_build_b21B (N : Nat) (k21 : Nat → Nat → Int32 → am_Mem → Option (Unit × am_Mem)) (r0 : Nat) (r1 : Nat) (x2 : Int32) (M : am_Mem) : Option (Unit × am_Mem) :=
  am_ck (am_k M r1 10) (if (am_I M r1 4) ≤ x2 then fn2_build_b64 N  N r0 r1 (0 : Int32) M else am_ck (am_k M (am_R M r1 8) 14) (am_ck (am_in x2 (am_L M (am_R M r1 8))) (am_ck (am_k M (am_R M r1 7) 14) (am_ck (am_in x2 (am_L M (am_R M r1 7))) (am_bd (fn10_right M r1 x2) (fun v6 M7 => am_ck (am_k M7 r1 10) (am_ck (am_k M7 (am_R M7 r1 9) 14) (am_ck (am_in x2 (am_L M7 (am_R M7 r1 9))) (am_ck (am_k M7 r0 2) (am_bd (fn2_insertSide N M7 r0 (am_I M (am_R M r1 8) x2.toNatClampNeg) (am_I M (am_R M r1 7) x2.toNatClampNeg) v6 (am_I M7 (am_R M7 r1 9) x2.toNatClampNeg)) (fun v13 M14 => k21 r0 r1 (x2 + (1 : Int32)) M14)))))))))))
def fn2_build_b21 (N : Nat)  : Nat → Nat → Nat → Int32 → am_Mem → Option (Unit × am_Mem)
  | 0 => fun _ _ _ _ => none
  | i + 1 => fn2_build_b21B N (fn2_build_b21 N  i)
def fn2_build_b0 (N : Nat)  (r0 : Nat) (r1 : Nat) (M : am_Mem) : Option (Unit × am_Mem) :=
  am_ck (am_k M r0 2) (if r1 = (am_R M r0 5) then some ((), M) else fn2_build_b21 N  N r0 r1 (0 : Int32) (am_wI (am_wR M r0 5 r1) r0 4 (0 : Int32)))
def fn2_build (N : Nat) (M : am_Mem) (r0 : Nat) (r1 : Nat) : Option (Unit × am_Mem) := fn2_build_b0 N r0 r1 M
def rm2_build : Room := { frames := 2, cells := 0, slots := 0, locals := 47 }
set_option maxRecDepth 20000 in
theorem sn2_build_b64B {l : Launch} {G : am_G} {M' : am_Mem} {N : Nat} {k64 : Nat → Nat → Int32 → am_Mem → Option (Unit × am_Mem)} (cx : am_Ctx l rm2_build yX2_build cX2_build 3 none none M' 0 0 G) (hk64 : ∀ (r0 : Nat) (r1 : Nat) (x2 : Int32) (M : am_Mem), k64 r0 r1 x2 M = some ((), M') → G 64 [(0, .inr (.inr (.inl r0))), (1, .inr (.inr (.inl r1))), (2, .inl x2)] [] M 0 0) {r0 : Nat} {r1 : Nat} {x2 : Int32} {M : am_Mem} (hres : fn2_build_b64B N k64 r0 r1 x2 M = some ((), M')) : G 64 [(0, .inr (.inr (.inl r0))), (1, .inr (.inr (.inl r1))), (2, .inl x2)] [] M 0 0 := by
  unfold fn2_build_b64B at hres
  refine am_iload_n cx 2 dX2_build_64 rfl ?_
  refine am_aload_n cx 1 dX2_build_65 rfl ?_
  obtain ⟨q1, hres⟩ := am_ck_some hres
  refine am_getI cx dX2_build_66 flX2_32 (am_ke q1) ?_
  refine am_icmp_ge cx (tgt := 105) dX2_build_69 (by decide) (fun h => ?_) (fun h => ?_)
  · have hres := am_ifp h hres
    refine am_aload_n cx 0 dX2_build_105 rfl ?_
    obtain ⟨q2, hres⟩ := am_ck_some hres
    obtain ⟨v3, M4, q5, hres⟩ := am_bd_some hres
    refine am_callV0 cx [] dX2_build_106 cvX2_54 (mt2_mergeSides q5) (am_ke q2) ⟨rfl, rfl, Nat.le_of_ble_eq_true rfl, Nat.le_of_ble_eq_true rfl⟩ rfl (Nat.le_of_ble_eq_true rfl) ⟨Nat.le_of_ble_eq_true rfl, Nat.le_of_ble_eq_true rfl⟩ ?_
    obtain ⟨-, rfl⟩ := am_fin hres
    exact am_vret cx dX2_build_109
  · have hres := am_ifn h hres
    refine am_aload_n cx 0 dX2_build_72 rfl ?_
    refine am_aload_n cx 1 dX2_build_73 rfl ?_
    refine am_iload_n cx 2 dX2_build_74 rfl ?_
    obtain ⟨v6, M7, q8, hres⟩ := am_bd_some hres
    refine am_callV1 cx [.inl x2] dX2_build_75 cvX2_51 (mt10_bottom q8) (am_ke q1) ⟨rfl, rfl, Nat.le_of_ble_eq_true rfl, Nat.le_of_ble_eq_true rfl⟩ rfl (Nat.le_of_ble_eq_true rfl) ⟨Nat.le_of_ble_eq_true rfl, Nat.le_of_ble_eq_true rfl⟩ ?_
    refine am_aload_n cx 1 dX2_build_78 rfl ?_
    obtain ⟨q9, hres⟩ := am_ck_some hres
    refine am_getR cx dX2_build_79 flX2_40 (am_ke q9) ?_
    refine am_iload_n cx 2 dX2_build_82 rfl ?_
    obtain ⟨q10, hres⟩ := am_ck_some hres
    obtain ⟨q11, hres⟩ := am_ck_some hres
    refine am_iald cx dX2_build_83 (am_ke q10) q11 ?_
    refine am_aload_n cx 1 dX2_build_84 rfl ?_
    refine am_iload_n cx 2 dX2_build_85 rfl ?_
    obtain ⟨v12, M13, q14, hres⟩ := am_bd_some hres
    refine am_callV1 cx [.inl x2] dX2_build_86 cvX2_41 (mt10_right q14) (am_ke q9) ⟨rfl, rfl, Nat.le_of_ble_eq_true rfl, Nat.le_of_ble_eq_true rfl⟩ rfl (Nat.le_of_ble_eq_true rfl) ⟨Nat.le_of_ble_eq_true rfl, Nat.le_of_ble_eq_true rfl⟩ ?_
    refine am_aload_n cx 1 dX2_build_89 rfl ?_
    obtain ⟨q15, hres⟩ := am_ck_some hres
    refine am_getR cx dX2_build_90 flX2_44 (am_ke q15) ?_
    refine am_iload_n cx 2 dX2_build_93 rfl ?_
    obtain ⟨q16, hres⟩ := am_ck_some hres
    obtain ⟨q17, hres⟩ := am_ck_some hres
    refine am_iald cx dX2_build_94 (am_ke q16) q17 ?_
    refine am_ineg cx dX2_build_95 ?_
    obtain ⟨q18, hres⟩ := am_ck_some hres
    obtain ⟨v19, M20, q21, hres⟩ := am_bd_some hres
    refine am_callV0 cx [.inl v6, .inl (am_I M7 (am_R M7 r1 7) x2.toNatClampNeg), .inl v12, .inl (-(am_I M13 (am_R M13 r1 9) x2.toNatClampNeg))] dX2_build_96 cvX2_47 (mt2_insertSide q21) (am_ke q18) ⟨rfl, rfl, Nat.le_of_ble_eq_true rfl, Nat.le_of_ble_eq_true rfl⟩ rfl (Nat.le_of_ble_eq_true rfl) ⟨Nat.le_of_ble_eq_true rfl, Nat.le_of_ble_eq_true rfl⟩ ?_
    refine am_iincw cx (lv' := [(0, .inr (.inr (.inl r0))), (1, .inr (.inr (.inl r1))), (2, .inl (x2 + (1 : Int32)))]) (w := (1 : Int32)) 2 dX2_build_99 (by decide) rfl (Nat.le_of_ble_eq_true rfl) rfl ?_
    refine am_goto cx (tgt := 64) dX2_build_102 (by decide) ?_
    exact hk64 _ _ _ _ hres
set_option maxRecDepth 20000 in
theorem sn2_build_b64 {l : Launch} {G : am_G} {M' : am_Mem} {N : Nat}  (cx : am_Ctx l rm2_build yX2_build cX2_build 3 none none M' 0 0 G)  (i : Nat) : ∀ (r0 : Nat) (r1 : Nat) (x2 : Int32) (M : am_Mem), fn2_build_b64 N  i r0 r1 x2 M = some ((), M') → G 64 [(0, .inr (.inr (.inl r0))), (1, .inr (.inr (.inl r1))), (2, .inl x2)] [] M 0 0 := by
  induction i with
  | zero => intro r0 r1 x2 M hres; exact am_no hres
  | succ i ih => intro r0 r1 x2 M hres; exact sn2_build_b64B cx ih hres
set_option maxRecDepth 20000 in
theorem sn2_build_b21B {l : Launch} {G : am_G} {M' : am_Mem} {N : Nat} {k21 : Nat → Nat → Int32 → am_Mem → Option (Unit × am_Mem)} (cx : am_Ctx l rm2_build yX2_build cX2_build 3 none none M' 0 0 G) (hk21 : ∀ (r0 : Nat) (r1 : Nat) (x2 : Int32) (M : am_Mem), k21 r0 r1 x2 M = some ((), M') → G 21 [(0, .inr (.inr (.inl r0))), (1, .inr (.inr (.inl r1))), (2, .inl x2)] [] M 0 0) {r0 : Nat} {r1 : Nat} {x2 : Int32} {M : am_Mem} (hres : fn2_build_b21B N k21 r0 r1 x2 M = some ((), M')) : G 21 [(0, .inr (.inr (.inl r0))), (1, .inr (.inr (.inl r1))), (2, .inl x2)] [] M 0 0 := by
  unfold fn2_build_b21B at hres
  refine am_iload_n cx 2 dX2_build_21 rfl ?_
  refine am_aload_n cx 1 dX2_build_22 rfl ?_
  obtain ⟨q1, hres⟩ := am_ck_some hres
  refine am_getI cx dX2_build_23 flX2_32 (am_ke q1) ?_
  refine am_icmp_ge cx (tgt := 62) dX2_build_26 (by decide) (fun h => ?_) (fun h => ?_)
  · have hres := am_ifp h hres
    refine am_iconst cx (v := (0 : Int32)) dX2_build_62 (by decide) ?_
    refine am_istore_n cx (lv' := [(0, .inr (.inr (.inl r0))), (1, .inr (.inr (.inl r1))), (2, .inl (0 : Int32))]) dX2_build_63 (Nat.le_of_ble_eq_true rfl) rfl ?_
    exact sn2_build_b64 cx  N _ _ _ _ hres
  · have hres := am_ifn h hres
    refine am_aload_n cx 0 dX2_build_29 rfl ?_
    refine am_aload_n cx 1 dX2_build_30 rfl ?_
    refine am_getR cx dX2_build_31 flX2_37 (am_ke q1) ?_
    refine am_iload_n cx 2 dX2_build_34 rfl ?_
    obtain ⟨q2, hres⟩ := am_ck_some hres
    obtain ⟨q3, hres⟩ := am_ck_some hres
    refine am_iald cx dX2_build_35 (am_ke q2) q3 ?_
    refine am_aload_n cx 1 dX2_build_36 rfl ?_
    refine am_getR cx dX2_build_37 flX2_40 (am_ke q1) ?_
    refine am_iload_n cx 2 dX2_build_40 rfl ?_
    obtain ⟨q4, hres⟩ := am_ck_some hres
    obtain ⟨q5, hres⟩ := am_ck_some hres
    refine am_iald cx dX2_build_41 (am_ke q4) q5 ?_
    refine am_aload_n cx 1 dX2_build_42 rfl ?_
    refine am_iload_n cx 2 dX2_build_43 rfl ?_
    obtain ⟨v6, M7, q8, hres⟩ := am_bd_some hres
    refine am_callV1 cx [.inl x2] dX2_build_44 cvX2_41 (mt10_right q8) (am_ke q1) ⟨rfl, rfl, Nat.le_of_ble_eq_true rfl, Nat.le_of_ble_eq_true rfl⟩ rfl (Nat.le_of_ble_eq_true rfl) ⟨Nat.le_of_ble_eq_true rfl, Nat.le_of_ble_eq_true rfl⟩ ?_
    refine am_aload_n cx 1 dX2_build_47 rfl ?_
    obtain ⟨q9, hres⟩ := am_ck_some hres
    refine am_getR cx dX2_build_48 flX2_44 (am_ke q9) ?_
    refine am_iload_n cx 2 dX2_build_51 rfl ?_
    obtain ⟨q10, hres⟩ := am_ck_some hres
    obtain ⟨q11, hres⟩ := am_ck_some hres
    refine am_iald cx dX2_build_52 (am_ke q10) q11 ?_
    obtain ⟨q12, hres⟩ := am_ck_some hres
    obtain ⟨v13, M14, q15, hres⟩ := am_bd_some hres
    refine am_callV0 cx [.inl (am_I M (am_R M r1 8) x2.toNatClampNeg), .inl (am_I M (am_R M r1 7) x2.toNatClampNeg), .inl v6, .inl (am_I M7 (am_R M7 r1 9) x2.toNatClampNeg)] dX2_build_53 cvX2_47 (mt2_insertSide q15) (am_ke q12) ⟨rfl, rfl, Nat.le_of_ble_eq_true rfl, Nat.le_of_ble_eq_true rfl⟩ rfl (Nat.le_of_ble_eq_true rfl) ⟨Nat.le_of_ble_eq_true rfl, Nat.le_of_ble_eq_true rfl⟩ ?_
    refine am_iincw cx (lv' := [(0, .inr (.inr (.inl r0))), (1, .inr (.inr (.inl r1))), (2, .inl (x2 + (1 : Int32)))]) (w := (1 : Int32)) 2 dX2_build_56 (by decide) rfl (Nat.le_of_ble_eq_true rfl) rfl ?_
    refine am_goto cx (tgt := 21) dX2_build_59 (by decide) ?_
    exact hk21 _ _ _ _ hres
set_option maxRecDepth 20000 in
theorem sn2_build_b21 {l : Launch} {G : am_G} {M' : am_Mem} {N : Nat}  (cx : am_Ctx l rm2_build yX2_build cX2_build 3 none none M' 0 0 G)  (i : Nat) : ∀ (r0 : Nat) (r1 : Nat) (x2 : Int32) (M : am_Mem), fn2_build_b21 N  i r0 r1 x2 M = some ((), M') → G 21 [(0, .inr (.inr (.inl r0))), (1, .inr (.inr (.inl r1))), (2, .inl x2)] [] M 0 0 := by
  induction i with
  | zero => intro r0 r1 x2 M hres; exact am_no hres
  | succ i ih => intro r0 r1 x2 M hres; exact sn2_build_b21B cx ih hres
set_option maxRecDepth 20000 in
theorem sn2_build_b0 {l : Launch} {G : am_G} {M' : am_Mem} {N : Nat}  (cx : am_Ctx l rm2_build yX2_build cX2_build 3 none none M' 0 0 G)  {r0 : Nat} {r1 : Nat} {M : am_Mem} (hres : fn2_build_b0 N  r0 r1 M = some ((), M')) : G 0 [(0, .inr (.inr (.inl r0))), (1, .inr (.inr (.inl r1)))] [] M 0 0 := by
  unfold fn2_build_b0 at hres
  refine am_aload_n cx 1 dX2_build_0 rfl ?_
  refine am_aload_n cx 0 dX2_build_1 rfl ?_
  obtain ⟨q1, hres⟩ := am_ck_some hres
  refine am_getR cx dX2_build_2 flX2_24 (am_ke q1) ?_
  refine am_acmp_ne cx (tgt := 9) dX2_build_5 (by decide) (fun h => ?_) (fun h => ?_)
  · have hres := am_ifn h hres
    refine am_aload_n cx 0 dX2_build_9 rfl ?_
    refine am_aload_n cx 1 dX2_build_10 rfl ?_
    refine am_putR cx dX2_build_11 fpX2_24 (fun h => by cases h) (Or.inl ⟨_, rfl⟩) (am_ke q1) ?_
    refine am_aload_n cx 0 dX2_build_14 rfl ?_
    refine am_iconst cx (v := (0 : Int32)) dX2_build_15 (by decide) ?_
    refine am_putI cx dX2_build_16 fpX2_28 (fun h => by cases h) (am_ke q1) ?_
    refine am_iconst cx (v := (0 : Int32)) dX2_build_19 (by decide) ?_
    refine am_istore_n cx (lv' := [(0, .inr (.inr (.inl r0))), (1, .inr (.inr (.inl r1))), (2, .inl (0 : Int32))]) dX2_build_20 (Nat.le_of_ble_eq_true rfl) rfl ?_
    exact sn2_build_b21 cx  N _ _ _ _ hres
  · have hres := am_ifp h hres
    obtain ⟨-, rfl⟩ := am_fin hres
    exact am_vret cx dX2_build_8
set_option maxRecDepth 20000 in
theorem mt2_build {l : Launch} {M M' : am_Mem} {N : Nat} {r0 : Nat} {r1 : Nat} (h : fn2_build N M r0 r1 = some ((), M')) : am_Met l yX2_build cX2_build 3 none rm2_build 0 0 [.inr (.inr (.inl r0)), .inr (.inr (.inl r1))] M none M' := am_mk (by decide) (Nat.le_of_ble_eq_true rfl) (fun G cx => (sn2_build_b0 cx h))
-- SquareCuts$NetLayer.layWire
def fn4_layWire_b0 (N : Nat)  (r0 : Nat) (x1 : Int32) (x2 : Int32) (M : am_Mem) : Option (Unit × am_Mem) :=
  am_ck (am_k M r0 4) (am_ck (am_k M (am_R M r0 2) 14) (am_ck (am_in x2 (am_L M (am_R M r0 2))) (am_ck (am_k M (am_R M r0 3) 16) (am_ck (am_in x1 (am_L M (am_R M r0 3))) (am_ck (am_k M (am_R M r0 0) 17) (am_ck (am_in (x2 + (1 : Int32)) (am_L M (am_R M r0 0))) (am_ck (am_in x2 (am_L M (am_R M r0 0))) (am_ck (am_k M (am_R M (am_R M r0 0) (x2 + (1 : Int32)).toNatClampNeg) 6) (am_bd (fn6_copyFrom (am_wI (am_wI M (am_R M r0 2) x2.toNatClampNeg x1) (am_R M r0 3) x1.toNatClampNeg ((1 : Int32) &&& 1)) (am_R M (am_R M r0 0) (x2 + (1 : Int32)).toNatClampNeg) (am_R M (am_R M r0 0) x2.toNatClampNeg)) (fun v10 M11 => am_ck (am_k M11 r0 4) (am_ck (am_k M11 (am_R M11 r0 0) 17) (am_ck (am_in (x2 + (1 : Int32)) (am_L M11 (am_R M11 r0 0))) (am_ck (am_k M11 (am_R M11 r0 1) 14) (am_ck (am_in x1 (am_L M11 (am_R M11 r0 1))) (am_ck (am_k M11 (am_R M11 (am_R M11 r0 0) (x2 + (1 : Int32)).toNatClampNeg) 6) (am_bd (fn6_lay N M11 (am_R M11 (am_R M11 r0 0) (x2 + (1 : Int32)).toNatClampNeg) (am_I M11 (am_R M11 r0 1) x1.toNatClampNeg)) (fun v19 M20 => some ((), M20))))))))))))))))))
def fn4_layWire (N : Nat) (M : am_Mem) (r0 : Nat) (x1 : Int32) (x2 : Int32) : Option (Unit × am_Mem) := fn4_layWire_b0 N r0 x1 x2 M
def rm4_layWire : Room := { frames := 2, cells := 0, slots := 0, locals := 81 }
set_option maxRecDepth 20000 in
theorem sn4_layWire_b0 {l : Launch} {G : am_G} {M' : am_Mem} {N : Nat}  (cx : am_Ctx l rm4_layWire yX4_layWire cX4_layWire 3 none none M' 0 0 G)  {r0 : Nat} {x1 : Int32} {x2 : Int32} {M : am_Mem} (hres : fn4_layWire_b0 N  r0 x1 x2 M = some ((), M')) : G 0 [(0, .inr (.inr (.inl r0))), (1, .inl x1), (2, .inl x2)] [] M 0 0 := by
  unfold fn4_layWire_b0 at hres
  refine am_aload_n cx 0 dX4_layWire_0 rfl ?_
  obtain ⟨q1, hres⟩ := am_ck_some hres
  refine am_getR cx dX4_layWire_1 flX4_21 (am_ke q1) ?_
  refine am_iload_n cx 2 dX4_layWire_4 rfl ?_
  refine am_iload_n cx 1 dX4_layWire_5 rfl ?_
  obtain ⟨q2, hres⟩ := am_ck_some hres
  obtain ⟨q3, hres⟩ := am_ck_some hres
  refine am_iast cx dX4_layWire_6 (am_ke q2) q3  ?_
  refine am_aload_n cx 0 dX4_layWire_7 rfl ?_
  refine am_getR cx dX4_layWire_8 flX4_24 (am_ke q1) ?_
  refine am_iload_n cx 1 dX4_layWire_11 rfl ?_
  refine am_iconst cx (v := (1 : Int32)) dX4_layWire_12 (by decide) ?_
  obtain ⟨q4, hres⟩ := am_ck_some hres
  obtain ⟨q5, hres⟩ := am_ck_some hres
  refine am_zast cx dX4_layWire_13 (am_ke q4) q5  ?_
  refine am_aload_n cx 0 dX4_layWire_14 rfl ?_
  refine am_getR cx dX4_layWire_15 flX4_11 (am_ke q1) ?_
  refine am_iload_n cx 2 dX4_layWire_18 rfl ?_
  refine am_iconst cx (v := (1 : Int32)) dX4_layWire_19 (by decide) ?_
  refine am_iadd cx dX4_layWire_20 ?_
  obtain ⟨q6, hres⟩ := am_ck_some hres
  obtain ⟨q7, hres⟩ := am_ck_some hres
  refine am_aald17 cx dX4_layWire_21 (am_ke q6) q7 ?_
  refine am_aload_n cx 0 dX4_layWire_22 rfl ?_
  refine am_getR cx dX4_layWire_23 flX4_11 (am_ke q1) ?_
  refine am_iload_n cx 2 dX4_layWire_26 rfl ?_
  obtain ⟨q8, hres⟩ := am_ck_some hres
  refine am_aald17 cx dX4_layWire_27 (am_ke q6) q8 ?_
  obtain ⟨q9, hres⟩ := am_ck_some hres
  obtain ⟨v10, M11, q12, hres⟩ := am_bd_some hres
  refine am_callV0 cx [.inr (.inr (.inl (am_R M (am_R M r0 0) x2.toNatClampNeg)))] dX4_layWire_28 cvX4_85 (mt6_copyFrom q12) (am_ke q9) ⟨rfl, rfl, Nat.le_of_ble_eq_true rfl, Nat.le_of_ble_eq_true rfl⟩ rfl (Nat.le_of_ble_eq_true rfl) ⟨Nat.le_of_ble_eq_true rfl, Nat.le_of_ble_eq_true rfl⟩ ?_
  refine am_aload_n cx 0 dX4_layWire_31 rfl ?_
  obtain ⟨q13, hres⟩ := am_ck_some hres
  refine am_getR cx dX4_layWire_32 flX4_11 (am_ke q13) ?_
  refine am_iload_n cx 2 dX4_layWire_35 rfl ?_
  refine am_iconst cx (v := (1 : Int32)) dX4_layWire_36 (by decide) ?_
  refine am_iadd cx dX4_layWire_37 ?_
  obtain ⟨q14, hres⟩ := am_ck_some hres
  obtain ⟨q15, hres⟩ := am_ck_some hres
  refine am_aald17 cx dX4_layWire_38 (am_ke q14) q15 ?_
  refine am_aload_n cx 0 dX4_layWire_39 rfl ?_
  refine am_getR cx dX4_layWire_40 flX4_17 (am_ke q13) ?_
  refine am_iload_n cx 1 dX4_layWire_43 rfl ?_
  obtain ⟨q16, hres⟩ := am_ck_some hres
  obtain ⟨q17, hres⟩ := am_ck_some hres
  refine am_iald cx dX4_layWire_44 (am_ke q16) q17 ?_
  obtain ⟨q18, hres⟩ := am_ck_some hres
  obtain ⟨v19, M20, q21, hres⟩ := am_bd_some hres
  refine am_callV0 cx [.inl (am_I M11 (am_R M11 r0 1) x1.toNatClampNeg)] dX4_layWire_45 cvX4_89 (mt6_lay q21) (am_ke q18) ⟨rfl, rfl, Nat.le_of_ble_eq_true rfl, Nat.le_of_ble_eq_true rfl⟩ rfl (Nat.le_of_ble_eq_true rfl) ⟨Nat.le_of_ble_eq_true rfl, Nat.le_of_ble_eq_true rfl⟩ ?_
  obtain ⟨-, rfl⟩ := am_fin hres
  exact am_vret cx dX4_layWire_48
set_option maxRecDepth 20000 in
theorem mt4_layWire {l : Launch} {M M' : am_Mem} {N : Nat} {r0 : Nat} {x1 : Int32} {x2 : Int32} (h : fn4_layWire N M r0 x1 x2 = some ((), M')) : am_Met l yX4_layWire cX4_layWire 3 none rm4_layWire 0 0 [.inr (.inr (.inl r0)), .inl x1, .inl x2] M none M' := am_mk (by decide) (Nat.le_of_ble_eq_true rfl) (fun G cx => (sn4_layWire_b0 cx h))
-- SquareCuts$NetSolver.solve
def fn5_solve_b122 (N : Nat)  (r5 : Nat) (M : am_Mem) : Option (Nat × am_Mem) :=
  some (r5, M)
def fn5_solve_b106 (N : Nat)  (r0 : Nat) (r5 : Nat) (M : am_Mem) : Option (Nat × am_Mem) :=
  am_ck (am_k M r5 3) (if (lg_cmp (am_J M r5 4) (0 : Int64)) ≤ 0 then fn5_solve_b122 N  r5 M else am_ck (am_k M r0 5) (am_bd (fn5_setFlow N M r0 r5) (fun v3 M4 => fn5_solve_b122 N  r5 M4)))
def fn5_solve_b32B (N : Nat) (k32 : Nat → Nat → Int32 → Int32 → Int32 → am_Mem → Option (Nat × am_Mem)) (r0 : Nat) (r1 : Nat) (x3 : Int32) (x4 : Int32) (x5 : Int32) (M : am_Mem) : Option (Nat × am_Mem) :=
  if x4 ≤ x5 then am_ck (am_k (am_new M 3 0) (am_n M + 1) 3) (am_bd (fn3_init (am_new M 3 0) (am_n M + 1) x3 x4) (fun v2 M3 => am_ck (am_k M3 r0 5) (am_bd (fn5_fillMatrix N M3 r0 x3 x4) (fun v6 M7 => am_ck (am_k M7 r0 5) (am_bd (fn5_eliminate N M7 r0 (x3 - (1 : Int32))) (fun v10 M11 => am_ck (am_k M11 (am_n M + 1) 3) (fn5_solve_b106 N  r0 (am_n M + 1) (am_wJ M11 (am_n M + 1) 4 v10)))))))) else am_ck (am_k M r0 5) (am_ck (am_k M r1 14) (am_ck (am_in ((1 : Int32) + ((2 : Int32) * x5)) (am_L M r1)) (am_ck (am_k M (am_R M r0 1) 14) (am_ck (am_in x5 (am_L M (am_R M r0 1))) (am_ck (am_in ((2 : Int32) + ((2 : Int32) * x5)) (am_L M r1)) (am_ck (am_k M (am_R M r0 2) 14) (am_ck (am_in x5 (am_L M (am_R M r0 2))) (k32 r0 r1 x3 x4 (x5 + (1 : Int32)) (am_wI (am_wI M (am_R M r0 1) x5.toNatClampNeg (am_I M r1 ((1 : Int32) + ((2 : Int32) * x5)).toNatClampNeg)) (am_R M r0 2) x5.toNatClampNeg (am_I (am_wI M (am_R M r0 1) x5.toNatClampNeg (am_I M r1 ((1 : Int32) + ((2 : Int32) * x5)).toNatClampNeg)) r1 ((2 : Int32) + ((2 : Int32) * x5)).toNatClampNeg))))))))))
def fn5_solve_b32 (N : Nat)  : Nat → Nat → Nat → Int32 → Int32 → Int32 → am_Mem → Option (Nat × am_Mem)
  | 0 => fun _ _ _ _ _ _ => none
  | i + 1 => fn5_solve_b32B N (fn5_solve_b32 N  i)
def fn5_solve_b0 (N : Nat)  (r0 : Nat) (r1 : Nat) (x2 : Int32) (M : am_Mem) : Option (Nat × am_Mem) :=
  am_ck (am_k M r1 14) (am_ck (am_in (0 : Int32) (am_L M r1)) (fn5_solve_b32 N  N r0 r1 (if (2 : Int32) < (if (9 : Int32) < (am_I M r1 (0 : Int32).toNatClampNeg) then (9 : Int32) else (am_I M r1 (0 : Int32).toNatClampNeg)) then (if (9 : Int32) < (am_I M r1 (0 : Int32).toNatClampNeg) then (9 : Int32) else (am_I M r1 (0 : Int32).toNatClampNeg)) else (2 : Int32)) (if (0 : Int32) < (if (14 : Int32) < ((x2 - (1 : Int32)) / (2 : Int32)) then (14 : Int32) else ((x2 - (1 : Int32)) / (2 : Int32))) then (if (14 : Int32) < ((x2 - (1 : Int32)) / (2 : Int32)) then (14 : Int32) else ((x2 - (1 : Int32)) / (2 : Int32))) else (0 : Int32)) (0 : Int32) M))
def fn5_solve (N : Nat) (M : am_Mem) (r0 : Nat) (r1 : Nat) (x2 : Int32) : Option (Nat × am_Mem) := fn5_solve_b0 N r0 r1 x2 M
def rm5_solve : Room := { frames := 3, cells := 3, slots := 36, locals := 70 }
set_option maxRecDepth 20000 in
theorem sn5_solve_b122 {l : Launch} {G : am_G} {v : Nat} {M' : am_Mem} {N : Nat}  (cx : am_Ctx l rm5_solve yX5_solve cX5_solve 6 (some (.object "SquareCuts$Net")) (some (.inr (.inr (.inl v)))) M' 3 36 G)  {r5 : Nat} {M : am_Mem} (hres : fn5_solve_b122 N  r5 M = some (v, M')) : G 122 [(5, .inr (.inr (.inl r5)))] [] M 3 36 := by
  unfold fn5_solve_b122 at hres
  refine am_aload cx 0 dX5_solve_122 rfl ?_
  obtain ⟨rfl, rfl⟩ := am_fin hres
  exact am_aret cx dX5_solve_124
set_option maxRecDepth 20000 in
theorem sn5_solve_b106 {l : Launch} {G : am_G} {v : Nat} {M' : am_Mem} {N : Nat}  (cx : am_Ctx l rm5_solve yX5_solve cX5_solve 6 (some (.object "SquareCuts$Net")) (some (.inr (.inr (.inl v)))) M' 3 36 G)  {r0 : Nat} {r5 : Nat} {M : am_Mem} (hres : fn5_solve_b106 N  r0 r5 M = some (v, M')) : G 106 [(0, .inr (.inr (.inl r0))), (5, .inr (.inr (.inl r5)))] [] M 3 36 := by
  unfold fn5_solve_b106 at hres
  refine am_aload cx 1 dX5_solve_106 rfl ?_
  obtain ⟨q1, hres⟩ := am_ck_some hres
  refine am_getJ cx dX5_solve_108 flX5_47 (am_ke q1) ?_
  refine am_lconst cx (v := (0 : Int64)) dX5_solve_111 (by decide) ?_
  refine am_lcmp cx dX5_solve_112 ?_
  refine am_if_le cx (tgt := 122) dX5_solve_113 (by decide) (fun h => ?_) (fun h => ?_)
  · have hres := am_ifp h hres
    refine am_sub cx [1] rfl ?_
    exact sn5_solve_b122 cx  hres
  · have hres := am_ifn h hres
    refine am_aload_n cx 0 dX5_solve_116 rfl ?_
    refine am_aload cx 1 dX5_solve_117 rfl ?_
    obtain ⟨q2, hres⟩ := am_ck_some hres
    obtain ⟨v3, M4, q5, hres⟩ := am_bd_some hres
    refine am_callV0 cx [.inr (.inr (.inl r5))] dX5_solve_119 cvX5_51 (mt5_setFlow q5) (am_ke q2) ⟨rfl, rfl, Nat.le_of_ble_eq_true rfl, Nat.le_of_ble_eq_true rfl⟩ rfl (Nat.le_of_ble_eq_true rfl) ⟨Nat.le_of_ble_eq_true rfl, Nat.le_of_ble_eq_true rfl⟩ ?_
    refine am_sub cx [1] rfl ?_
    exact sn5_solve_b122 cx  hres
set_option maxRecDepth 20000 in
theorem sn5_solve_b32B {l : Launch} {G : am_G} {v : Nat} {M' : am_Mem} {N : Nat} {k32 : Nat → Nat → Int32 → Int32 → Int32 → am_Mem → Option (Nat × am_Mem)} (cx : am_Ctx l rm5_solve yX5_solve cX5_solve 6 (some (.object "SquareCuts$Net")) (some (.inr (.inr (.inl v)))) M' 3 36 G) (hk32 : ∀ (r0 : Nat) (r1 : Nat) (x3 : Int32) (x4 : Int32) (x5 : Int32) (M : am_Mem), k32 r0 r1 x3 x4 x5 M = some (v, M') → G 32 [(0, .inr (.inr (.inl r0))), (1, .inr (.inr (.inl r1))), (3, .inl x3), (4, .inl x4), (5, .inl x5)] [] M 0 0) {r0 : Nat} {r1 : Nat} {x3 : Int32} {x4 : Int32} {x5 : Int32} {M : am_Mem} (hres : fn5_solve_b32B N k32 r0 r1 x3 x4 x5 M = some (v, M')) : G 32 [(0, .inr (.inr (.inl r0))), (1, .inr (.inr (.inl r1))), (3, .inl x3), (4, .inl x4), (5, .inl x5)] [] M 0 0 := by
  unfold fn5_solve_b32B at hres
  refine am_iload cx 4 dX5_solve_32 rfl ?_
  refine am_iload cx 3 dX5_solve_34 rfl ?_
  refine am_icmp_ge cx (tgt := 75) dX5_solve_36 (by decide) (fun h => ?_) (fun h => ?_)
  · have hres := am_ifp h hres
    refine am_newO cx dX5_solve_75 nwX5_35 (Nat.le_of_ble_eq_true rfl) (Nat.le_of_ble_eq_true rfl) ?_
    refine am_dup cx dX5_solve_78 rfl ?_
    refine am_iload_n cx 2 dX5_solve_79 rfl ?_
    refine am_iload cx 3 dX5_solve_80 rfl ?_
    obtain ⟨q1, hres⟩ := am_ck_some hres
    obtain ⟨v2, M3, q4, hres⟩ := am_bd_some hres
    refine am_callI0 cx [.inl x3, .inl x4] dX5_solve_82 ciX5_37 (mt3_init q4) (by rw [show am_K _ _ = 3 from (am_ke q1)]; decide) ⟨rfl, rfl, Nat.le_of_ble_eq_true rfl, Nat.le_of_ble_eq_true rfl⟩ rfl (Nat.le_of_ble_eq_true rfl) ⟨Nat.le_of_ble_eq_true rfl, Nat.le_of_ble_eq_true rfl⟩ ?_
    refine am_astore cx (lv' := [(0, .inr (.inr (.inl r0))), (1, .inr (.inr (.inl r1))), (3, .inl x3), (4, .inl x4), (5, .inr (.inr (.inl (am_n M + 1))))]) dX5_solve_85 (Nat.le_of_ble_eq_true rfl) rfl ?_
    refine am_aload_n cx 0 dX5_solve_87 rfl ?_
    refine am_iload_n cx 2 dX5_solve_88 rfl ?_
    refine am_iload cx 3 dX5_solve_89 rfl ?_
    obtain ⟨q5, hres⟩ := am_ck_some hres
    obtain ⟨v6, M7, q8, hres⟩ := am_bd_some hres
    refine am_callV0 cx [.inl x3, .inl x4] dX5_solve_91 cvX5_40 (mt5_fillMatrix q8) (am_ke q5) ⟨rfl, rfl, Nat.le_of_ble_eq_true rfl, Nat.le_of_ble_eq_true rfl⟩ rfl (Nat.le_of_ble_eq_true rfl) ⟨Nat.le_of_ble_eq_true rfl, Nat.le_of_ble_eq_true rfl⟩ ?_
    refine am_aload cx 4 dX5_solve_94 rfl ?_
    refine am_aload_n cx 0 dX5_solve_96 rfl ?_
    refine am_iload_n cx 2 dX5_solve_97 rfl ?_
    refine am_iconst cx (v := (1 : Int32)) dX5_solve_98 (by decide) ?_
    refine am_isub cx dX5_solve_99 ?_
    obtain ⟨q9, hres⟩ := am_ck_some hres
    obtain ⟨v10, M11, q12, hres⟩ := am_bd_some hres
    refine am_callV1 cx [.inl (x3 - (1 : Int32))] dX5_solve_100 cvX5_43 (mt5_eliminate q12) (am_ke q9) ⟨rfl, rfl, Nat.le_of_ble_eq_true rfl, Nat.le_of_ble_eq_true rfl⟩ rfl (Nat.le_of_ble_eq_true rfl) ⟨Nat.le_of_ble_eq_true rfl, Nat.le_of_ble_eq_true rfl⟩ ?_
    obtain ⟨q13, hres⟩ := am_ck_some hres
    refine am_putJ cx dX5_solve_103 fpX5_47 (fun h => by cases h) (am_ke q13) ?_
    refine am_sub cx [0, 4] rfl ?_
    exact sn5_solve_b106 cx  hres
  · have hres := am_ifn h hres
    refine am_aload_n cx 0 dX5_solve_39 rfl ?_
    obtain ⟨q14, hres⟩ := am_ck_some hres
    refine am_getR cx dX5_solve_40 flX5_16 (am_ke q14) ?_
    refine am_iload cx 4 dX5_solve_43 rfl ?_
    refine am_aload_n cx 1 dX5_solve_45 rfl ?_
    refine am_iconst cx (v := (1 : Int32)) dX5_solve_46 (by decide) ?_
    refine am_iconst cx (v := (2 : Int32)) dX5_solve_47 (by decide) ?_
    refine am_iload cx 4 dX5_solve_48 rfl ?_
    refine am_imul cx dX5_solve_50 ?_
    refine am_iadd cx dX5_solve_51 ?_
    obtain ⟨q15, hres⟩ := am_ck_some hres
    obtain ⟨q16, hres⟩ := am_ck_some hres
    refine am_iald cx dX5_solve_52 (am_ke q15) q16 ?_
    obtain ⟨q17, hres⟩ := am_ck_some hres
    obtain ⟨q18, hres⟩ := am_ck_some hres
    refine am_iast cx dX5_solve_53 (am_ke q17) q18  ?_
    refine am_aload_n cx 0 dX5_solve_54 rfl ?_
    refine am_getR cx dX5_solve_55 flX5_20 (am_ke q14) ?_
    refine am_iload cx 4 dX5_solve_58 rfl ?_
    refine am_aload_n cx 1 dX5_solve_60 rfl ?_
    refine am_iconst cx (v := (2 : Int32)) dX5_solve_61 (by decide) ?_
    refine am_iconst cx (v := (2 : Int32)) dX5_solve_62 (by decide) ?_
    refine am_iload cx 4 dX5_solve_63 rfl ?_
    refine am_imul cx dX5_solve_65 ?_
    refine am_iadd cx dX5_solve_66 ?_
    obtain ⟨q19, hres⟩ := am_ck_some hres
    refine am_iald cx dX5_solve_67 (am_ke q15) q19 ?_
    obtain ⟨q20, hres⟩ := am_ck_some hres
    obtain ⟨q21, hres⟩ := am_ck_some hres
    refine am_iast cx dX5_solve_68 (am_ke q20) q21  ?_
    refine am_iincw cx (lv' := [(0, .inr (.inr (.inl r0))), (1, .inr (.inr (.inl r1))), (3, .inl x3), (4, .inl x4), (5, .inl (x5 + (1 : Int32)))]) (w := (1 : Int32)) 4 dX5_solve_69 (by decide) rfl (Nat.le_of_ble_eq_true rfl) rfl ?_
    refine am_goto cx (tgt := 32) dX5_solve_72 (by decide) ?_
    exact hk32 _ _ _ _ _ _ hres
set_option maxRecDepth 20000 in
theorem sn5_solve_b32 {l : Launch} {G : am_G} {v : Nat} {M' : am_Mem} {N : Nat}  (cx : am_Ctx l rm5_solve yX5_solve cX5_solve 6 (some (.object "SquareCuts$Net")) (some (.inr (.inr (.inl v)))) M' 3 36 G)  (i : Nat) : ∀ (r0 : Nat) (r1 : Nat) (x3 : Int32) (x4 : Int32) (x5 : Int32) (M : am_Mem), fn5_solve_b32 N  i r0 r1 x3 x4 x5 M = some (v, M') → G 32 [(0, .inr (.inr (.inl r0))), (1, .inr (.inr (.inl r1))), (3, .inl x3), (4, .inl x4), (5, .inl x5)] [] M 0 0 := by
  induction i with
  | zero => intro r0 r1 x3 x4 x5 M hres; exact am_no hres
  | succ i ih => intro r0 r1 x3 x4 x5 M hres; exact sn5_solve_b32B cx ih hres
set_option maxRecDepth 20000 in
theorem sn5_solve_b0 {l : Launch} {G : am_G} {v : Nat} {M' : am_Mem} {N : Nat}  (cx : am_Ctx l rm5_solve yX5_solve cX5_solve 6 (some (.object "SquareCuts$Net")) (some (.inr (.inr (.inl v)))) M' 3 36 G)  {r0 : Nat} {r1 : Nat} {x2 : Int32} {M : am_Mem} (hres : fn5_solve_b0 N  r0 r1 x2 M = some (v, M')) : G 0 [(0, .inr (.inr (.inl r0))), (1, .inr (.inr (.inl r1))), (2, .inl x2)] [] M 0 0 := by
  unfold fn5_solve_b0 at hres
  refine am_iconst cx (v := (2 : Int32)) dX5_solve_0 (by decide) ?_
  refine am_aload_n cx 1 dX5_solve_1 rfl ?_
  refine am_iconst cx (v := (0 : Int32)) dX5_solve_2 (by decide) ?_
  obtain ⟨q1, hres⟩ := am_ck_some hres
  obtain ⟨q2, hres⟩ := am_ck_some hres
  refine am_iald cx dX5_solve_3 (am_ke q1) q2 ?_
  refine am_bipush cx (v := (9 : Int32)) dX5_solve_4 (by decide) ?_
  refine am_mmin cx dX5_solve_6 aw_3_26 aw_2_83 aw_1_12 aw_2_84 (Nat.le_of_ble_eq_true rfl) (Nat.le_of_ble_eq_true rfl) (Nat.le_of_ble_eq_true rfl) (Nat.le_of_ble_eq_true rfl) ?_
  refine am_mmax cx dX5_solve_9 aw_3_27 aw_3_28 aw_1_12 aw_3_29 (Nat.le_of_ble_eq_true rfl) (Nat.le_of_ble_eq_true rfl) (Nat.le_of_ble_eq_true rfl) (Nat.le_of_ble_eq_true rfl) ?_
  refine am_istore_n cx (lv' := [(0, .inr (.inr (.inl r0))), (1, .inr (.inr (.inl r1))), (2, .inl x2), (3, .inl (if (2 : Int32) < (if (9 : Int32) < (am_I M r1 (0 : Int32).toNatClampNeg) then (9 : Int32) else (am_I M r1 (0 : Int32).toNatClampNeg)) then (if (9 : Int32) < (am_I M r1 (0 : Int32).toNatClampNeg) then (9 : Int32) else (am_I M r1 (0 : Int32).toNatClampNeg)) else (2 : Int32)))]) dX5_solve_12 (Nat.le_of_ble_eq_true rfl) rfl ?_
  refine am_iconst cx (v := (0 : Int32)) dX5_solve_13 (by decide) ?_
  refine am_iload_n cx 2 dX5_solve_14 rfl ?_
  refine am_iconst cx (v := (1 : Int32)) dX5_solve_15 (by decide) ?_
  refine am_isub cx dX5_solve_16 ?_
  refine am_iconst cx (v := (2 : Int32)) dX5_solve_17 (by decide) ?_
  refine am_idiv cx dX5_solve_18 (by decide) ?_
  refine am_bipush cx (v := (14 : Int32)) dX5_solve_19 (by decide) ?_
  refine am_mmin cx dX5_solve_21 aw_3_26 aw_2_83 aw_1_12 aw_2_84 (Nat.le_of_ble_eq_true rfl) (Nat.le_of_ble_eq_true rfl) (Nat.le_of_ble_eq_true rfl) (Nat.le_of_ble_eq_true rfl) ?_
  refine am_mmax cx dX5_solve_24 aw_3_27 aw_3_28 aw_1_12 aw_3_29 (Nat.le_of_ble_eq_true rfl) (Nat.le_of_ble_eq_true rfl) (Nat.le_of_ble_eq_true rfl) (Nat.le_of_ble_eq_true rfl) ?_
  refine am_istore cx (lv' := [(0, .inr (.inr (.inl r0))), (1, .inr (.inr (.inl r1))), (2, .inl x2), (3, .inl (if (2 : Int32) < (if (9 : Int32) < (am_I M r1 (0 : Int32).toNatClampNeg) then (9 : Int32) else (am_I M r1 (0 : Int32).toNatClampNeg)) then (if (9 : Int32) < (am_I M r1 (0 : Int32).toNatClampNeg) then (9 : Int32) else (am_I M r1 (0 : Int32).toNatClampNeg)) else (2 : Int32))), (4, .inl (if (0 : Int32) < (if (14 : Int32) < ((x2 - (1 : Int32)) / (2 : Int32)) then (14 : Int32) else ((x2 - (1 : Int32)) / (2 : Int32))) then (if (14 : Int32) < ((x2 - (1 : Int32)) / (2 : Int32)) then (14 : Int32) else ((x2 - (1 : Int32)) / (2 : Int32))) else (0 : Int32)))]) dX5_solve_27 (Nat.le_of_ble_eq_true rfl) rfl ?_
  refine am_iconst cx (v := (0 : Int32)) dX5_solve_29 (by decide) ?_
  refine am_istore cx (lv' := [(0, .inr (.inr (.inl r0))), (1, .inr (.inr (.inl r1))), (2, .inl x2), (3, .inl (if (2 : Int32) < (if (9 : Int32) < (am_I M r1 (0 : Int32).toNatClampNeg) then (9 : Int32) else (am_I M r1 (0 : Int32).toNatClampNeg)) then (if (9 : Int32) < (am_I M r1 (0 : Int32).toNatClampNeg) then (9 : Int32) else (am_I M r1 (0 : Int32).toNatClampNeg)) else (2 : Int32))), (4, .inl (if (0 : Int32) < (if (14 : Int32) < ((x2 - (1 : Int32)) / (2 : Int32)) then (14 : Int32) else ((x2 - (1 : Int32)) / (2 : Int32))) then (if (14 : Int32) < ((x2 - (1 : Int32)) / (2 : Int32)) then (14 : Int32) else ((x2 - (1 : Int32)) / (2 : Int32))) else (0 : Int32))), (5, .inl (0 : Int32))]) dX5_solve_30 (Nat.le_of_ble_eq_true rfl) rfl ?_
  refine am_sub cx [0, 1, 3, 4, 5] rfl ?_
  exact sn5_solve_b32 cx  N _ _ _ _ _ _ hres
set_option maxRecDepth 20000 in
theorem mt5_solve {l : Launch} {v : Nat} {M M' : am_Mem} {N : Nat} {r0 : Nat} {r1 : Nat} {x2 : Int32} (h : fn5_solve N M r0 r1 x2 = some (v, M')) : am_Met l yX5_solve cX5_solve 6 (some (.object "SquareCuts$Net")) rm5_solve 3 36 [.inr (.inr (.inl r0)), .inr (.inr (.inl r1)), .inl x2] M (some (.inr (.inr (.inl v)))) M' := am_mk (by decide) (Nat.le_of_ble_eq_true rfl) (fun G cx => (sn5_solve_b0 cx h))
-- SquareCuts$Page.write
def fn7_write_b48 (N : Nat) (k7 : Nat → Nat → Int32 → am_Mem → Option (Unit × am_Mem)) (r0 : Nat) (r1 : Nat) (x2 : Int32) (M : am_Mem) : Option (Unit × am_Mem) :=
  am_ck (am_k M r1 10) (am_ck (am_k M (am_R M r1 9) 14) (am_ck (am_in x2 (am_L M (am_R M r1 9))) (am_ck (am_k M r0 7) (am_bd (fn7_putNumber N M r0 (am_I M (am_R M r1 9) x2.toNatClampNeg)) (fun v5 M6 => k7 r0 r1 (x2 + (1 : Int32)) M6)))))
def fn7_write_b42 (N : Nat) (k7 : Nat → Nat → Int32 → am_Mem → Option (Unit × am_Mem)) (r0 : Nat) (r1 : Nat) (x2 : Int32) (M : am_Mem) : Option (Unit × am_Mem) :=
  am_ck (am_k M r0 7) (am_bd (fn7_put M r0 (40 : Int32)) (fun v2 M3 => fn7_write_b48 N k7 r0 r1 x2 M3))
def fn7_write_b7B (N : Nat) (k7 : Nat → Nat → Int32 → am_Mem → Option (Unit × am_Mem)) (r0 : Nat) (r1 : Nat) (x2 : Int32) (M : am_Mem) : Option (Unit × am_Mem) :=
  am_ck (am_k M r1 10) (if (am_I M r1 4) ≤ x2 then am_ck (am_k M r0 7) (am_bd (fn7_put M r0 (41 : Int32)) (fun v3 M4 => some ((), M4))) else am_bd (fn10_startsGroup M r1 x2) (fun v6 M7 => if v6 = 0 then am_ck (am_k M7 r0 7) (am_bd (fn7_put M7 r0 (32 : Int32)) (fun v14 M15 => fn7_write_b48 N k7 r0 r1 x2 M15)) else if x2 ≤ 0 then fn7_write_b42 N k7 r0 r1 x2 M7 else am_ck (am_k M7 r0 7) (am_bd (fn7_put M7 r0 (41 : Int32)) (fun v10 M11 => fn7_write_b42 N k7 r0 r1 x2 M11))))
def fn7_write_b7 (N : Nat)  : Nat → Nat → Nat → Int32 → am_Mem → Option (Unit × am_Mem)
  | 0 => fun _ _ _ _ => none
  | i + 1 => fn7_write_b7B N (fn7_write_b7 N  i)
def fn7_write_b0 (N : Nat)  (r0 : Nat) (r1 : Nat) (M : am_Mem) : Option (Unit × am_Mem) :=
  am_ck (am_k M r0 7) (fn7_write_b7 N  N r0 r1 (0 : Int32) (am_wI M r0 1 (0 : Int32)))
def fn7_write (N : Nat) (M : am_Mem) (r0 : Nat) (r1 : Nat) : Option (Unit × am_Mem) := fn7_write_b0 N r0 r1 M
def rm7_write : Room := { frames := 2, cells := 0, slots := 0, locals := 43 }
set_option maxRecDepth 20000 in
theorem sn7_write_b48 {l : Launch} {G : am_G} {M' : am_Mem} {N : Nat} {k7 : Nat → Nat → Int32 → am_Mem → Option (Unit × am_Mem)} (cx : am_Ctx l rm7_write yX7_write cX7_write 3 none none M' 0 0 G) (hk7 : ∀ (r0 : Nat) (r1 : Nat) (x2 : Int32) (M : am_Mem), k7 r0 r1 x2 M = some ((), M') → G 7 [(0, .inr (.inr (.inl r0))), (1, .inr (.inr (.inl r1))), (2, .inl x2)] [] M 0 0) {r0 : Nat} {r1 : Nat} {x2 : Int32} {M : am_Mem} (hres : fn7_write_b48 N k7 r0 r1 x2 M = some ((), M')) : G 48 [(0, .inr (.inr (.inl r0))), (1, .inr (.inr (.inl r1))), (2, .inl x2)] [] M 0 0 := by
  unfold fn7_write_b48 at hres
  refine am_aload_n cx 0 dX7_write_48 rfl ?_
  refine am_aload_n cx 1 dX7_write_49 rfl ?_
  obtain ⟨q1, hres⟩ := am_ck_some hres
  refine am_getR cx dX7_write_50 flX7_32 (am_ke q1) ?_
  refine am_iload_n cx 2 dX7_write_53 rfl ?_
  obtain ⟨q2, hres⟩ := am_ck_some hres
  obtain ⟨q3, hres⟩ := am_ck_some hres
  refine am_iald cx dX7_write_54 (am_ke q2) q3 ?_
  obtain ⟨q4, hres⟩ := am_ck_some hres
  obtain ⟨v5, M6, q7, hres⟩ := am_bd_some hres
  refine am_callV0 cx [.inl (am_I M (am_R M r1 9) x2.toNatClampNeg)] dX7_write_55 cvX7_36 (mt7_putNumber q7) (am_ke q4) ⟨rfl, rfl, Nat.le_of_ble_eq_true rfl, Nat.le_of_ble_eq_true rfl⟩ rfl (Nat.le_of_ble_eq_true rfl) ⟨Nat.le_of_ble_eq_true rfl, Nat.le_of_ble_eq_true rfl⟩ ?_
  refine am_iincw cx (lv' := [(0, .inr (.inr (.inl r0))), (1, .inr (.inr (.inl r1))), (2, .inl (x2 + (1 : Int32)))]) (w := (1 : Int32)) 2 dX7_write_58 (by decide) rfl (Nat.le_of_ble_eq_true rfl) rfl ?_
  refine am_goto cx (tgt := 7) dX7_write_61 (by decide) ?_
  exact hk7 _ _ _ _ hres
set_option maxRecDepth 20000 in
theorem sn7_write_b42 {l : Launch} {G : am_G} {M' : am_Mem} {N : Nat} {k7 : Nat → Nat → Int32 → am_Mem → Option (Unit × am_Mem)} (cx : am_Ctx l rm7_write yX7_write cX7_write 3 none none M' 0 0 G) (hk7 : ∀ (r0 : Nat) (r1 : Nat) (x2 : Int32) (M : am_Mem), k7 r0 r1 x2 M = some ((), M') → G 7 [(0, .inr (.inr (.inl r0))), (1, .inr (.inr (.inl r1))), (2, .inl x2)] [] M 0 0) {r0 : Nat} {r1 : Nat} {x2 : Int32} {M : am_Mem} (hres : fn7_write_b42 N k7 r0 r1 x2 M = some ((), M')) : G 42 [(0, .inr (.inr (.inl r0))), (1, .inr (.inr (.inl r1))), (2, .inl x2)] [] M 0 0 := by
  unfold fn7_write_b42 at hres
  refine am_aload_n cx 0 dX7_write_42 rfl ?_
  refine am_bipush cx (v := (40 : Int32)) dX7_write_43 (by decide) ?_
  obtain ⟨q1, hres⟩ := am_ck_some hres
  obtain ⟨v2, M3, q4, hres⟩ := am_bd_some hres
  refine am_callV0 cx [.inl (40 : Int32)] dX7_write_45 cvX7_28 (mt7_put q4) (am_ke q1) ⟨rfl, rfl, Nat.le_of_ble_eq_true rfl, Nat.le_of_ble_eq_true rfl⟩ rfl (Nat.le_of_ble_eq_true rfl) ⟨Nat.le_of_ble_eq_true rfl, Nat.le_of_ble_eq_true rfl⟩ ?_
  exact sn7_write_b48 cx hk7 hres
set_option maxRecDepth 20000 in
theorem sn7_write_b7B {l : Launch} {G : am_G} {M' : am_Mem} {N : Nat} {k7 : Nat → Nat → Int32 → am_Mem → Option (Unit × am_Mem)} (cx : am_Ctx l rm7_write yX7_write cX7_write 3 none none M' 0 0 G) (hk7 : ∀ (r0 : Nat) (r1 : Nat) (x2 : Int32) (M : am_Mem), k7 r0 r1 x2 M = some ((), M') → G 7 [(0, .inr (.inr (.inl r0))), (1, .inr (.inr (.inl r1))), (2, .inl x2)] [] M 0 0) {r0 : Nat} {r1 : Nat} {x2 : Int32} {M : am_Mem} (hres : fn7_write_b7B N k7 r0 r1 x2 M = some ((), M')) : G 7 [(0, .inr (.inr (.inl r0))), (1, .inr (.inr (.inl r1))), (2, .inl x2)] [] M 0 0 := by
  unfold fn7_write_b7B at hres
  refine am_iload_n cx 2 dX7_write_7 rfl ?_
  refine am_aload_n cx 1 dX7_write_8 rfl ?_
  obtain ⟨q1, hres⟩ := am_ck_some hres
  refine am_getI cx dX7_write_9 flX7_19 (am_ke q1) ?_
  refine am_icmp_ge cx (tgt := 64) dX7_write_12 (by decide) (fun h => ?_) (fun h => ?_)
  · have hres := am_ifp h hres
    refine am_aload_n cx 0 dX7_write_64 rfl ?_
    refine am_bipush cx (v := (41 : Int32)) dX7_write_65 (by decide) ?_
    obtain ⟨q2, hres⟩ := am_ck_some hres
    obtain ⟨v3, M4, q5, hres⟩ := am_bd_some hres
    refine am_callV0 cx [.inl (41 : Int32)] dX7_write_67 cvX7_28 (mt7_put q5) (am_ke q2) ⟨rfl, rfl, Nat.le_of_ble_eq_true rfl, Nat.le_of_ble_eq_true rfl⟩ rfl (Nat.le_of_ble_eq_true rfl) ⟨Nat.le_of_ble_eq_true rfl, Nat.le_of_ble_eq_true rfl⟩ ?_
    obtain ⟨-, rfl⟩ := am_fin hres
    exact am_vret cx dX7_write_70
  · have hres := am_ifn h hres
    refine am_aload_n cx 1 dX7_write_15 rfl ?_
    refine am_iload_n cx 2 dX7_write_16 rfl ?_
    obtain ⟨v6, M7, q8, hres⟩ := am_bd_some hres
    refine am_callV1 cx [.inl x2] dX7_write_17 cvX7_24 (mt10_startsGroup q8) (am_ke q1) ⟨rfl, rfl, Nat.le_of_ble_eq_true rfl, Nat.le_of_ble_eq_true rfl⟩ rfl (Nat.le_of_ble_eq_true rfl) ⟨Nat.le_of_ble_eq_true rfl, Nat.le_of_ble_eq_true rfl⟩ ?_
    refine am_if_ne cx (tgt := 32) dX7_write_20 (by decide) (fun h => ?_) (fun h => ?_)
    · have hres := am_ifn h hres
      refine am_iload_n cx 2 dX7_write_32 rfl ?_
      refine am_if_le cx (tgt := 42) dX7_write_33 (by decide) (fun h => ?_) (fun h => ?_)
      · have hres := am_ifp h hres
        exact sn7_write_b42 cx hk7 hres
      · have hres := am_ifn h hres
        refine am_aload_n cx 0 dX7_write_36 rfl ?_
        refine am_bipush cx (v := (41 : Int32)) dX7_write_37 (by decide) ?_
        obtain ⟨q9, hres⟩ := am_ck_some hres
        obtain ⟨v10, M11, q12, hres⟩ := am_bd_some hres
        refine am_callV0 cx [.inl (41 : Int32)] dX7_write_39 cvX7_28 (mt7_put q12) (am_ke q9) ⟨rfl, rfl, Nat.le_of_ble_eq_true rfl, Nat.le_of_ble_eq_true rfl⟩ rfl (Nat.le_of_ble_eq_true rfl) ⟨Nat.le_of_ble_eq_true rfl, Nat.le_of_ble_eq_true rfl⟩ ?_
        exact sn7_write_b42 cx hk7 hres
    · have hres := am_ifp h hres
      refine am_aload_n cx 0 dX7_write_23 rfl ?_
      refine am_bipush cx (v := (32 : Int32)) dX7_write_24 (by decide) ?_
      obtain ⟨q13, hres⟩ := am_ck_some hres
      obtain ⟨v14, M15, q16, hres⟩ := am_bd_some hres
      refine am_callV0 cx [.inl (32 : Int32)] dX7_write_26 cvX7_28 (mt7_put q16) (am_ke q13) ⟨rfl, rfl, Nat.le_of_ble_eq_true rfl, Nat.le_of_ble_eq_true rfl⟩ rfl (Nat.le_of_ble_eq_true rfl) ⟨Nat.le_of_ble_eq_true rfl, Nat.le_of_ble_eq_true rfl⟩ ?_
      refine am_goto cx (tgt := 48) dX7_write_29 (by decide) ?_
      exact sn7_write_b48 cx hk7 hres
set_option maxRecDepth 20000 in
theorem sn7_write_b7 {l : Launch} {G : am_G} {M' : am_Mem} {N : Nat}  (cx : am_Ctx l rm7_write yX7_write cX7_write 3 none none M' 0 0 G)  (i : Nat) : ∀ (r0 : Nat) (r1 : Nat) (x2 : Int32) (M : am_Mem), fn7_write_b7 N  i r0 r1 x2 M = some ((), M') → G 7 [(0, .inr (.inr (.inl r0))), (1, .inr (.inr (.inl r1))), (2, .inl x2)] [] M 0 0 := by
  induction i with
  | zero => intro r0 r1 x2 M hres; exact am_no hres
  | succ i ih => intro r0 r1 x2 M hres; exact sn7_write_b7B cx ih hres
set_option maxRecDepth 20000 in
theorem sn7_write_b0 {l : Launch} {G : am_G} {M' : am_Mem} {N : Nat}  (cx : am_Ctx l rm7_write yX7_write cX7_write 3 none none M' 0 0 G)  {r0 : Nat} {r1 : Nat} {M : am_Mem} (hres : fn7_write_b0 N  r0 r1 M = some ((), M')) : G 0 [(0, .inr (.inr (.inl r0))), (1, .inr (.inr (.inl r1)))] [] M 0 0 := by
  unfold fn7_write_b0 at hres
  refine am_aload_n cx 0 dX7_write_0 rfl ?_
  refine am_iconst cx (v := (0 : Int32)) dX7_write_1 (by decide) ?_
  obtain ⟨q1, hres⟩ := am_ck_some hres
  refine am_putI cx dX7_write_2 fpX7_15 (fun h => by cases h) (am_ke q1) ?_
  refine am_iconst cx (v := (0 : Int32)) dX7_write_5 (by decide) ?_
  refine am_istore_n cx (lv' := [(0, .inr (.inr (.inl r0))), (1, .inr (.inr (.inl r1))), (2, .inl (0 : Int32))]) dX7_write_6 (Nat.le_of_ble_eq_true rfl) rfl ?_
  exact sn7_write_b7 cx  N _ _ _ _ hres
set_option maxRecDepth 20000 in
theorem mt7_write {l : Launch} {M M' : am_Mem} {N : Nat} {r0 : Nat} {r1 : Nat} (h : fn7_write N M r0 r1 = some ((), M')) : am_Met l yX7_write cX7_write 3 none rm7_write 0 0 [.inr (.inr (.inl r0)), .inr (.inr (.inl r1))] M none M' := am_mk (by decide) (Nat.le_of_ble_eq_true rfl) (fun G cx => (sn7_write_b0 cx h))
-- SquareCuts$Reader.readGroup
def fn8_readGroup_b103 (N : Nat)  (r0 : Nat) (M : am_Mem) : Option (Int32 × am_Mem) :=
  am_ck (am_k M r0 8) (if (am_I M r0 3) = (4 : Int32) then am_bd (fn8_nextToken N M r0) (fun v2 M3 => some ((0 : Int32), M3)) else am_bd (fn8_faultOf M r0 (1 : Int32)) (fun v5 M6 => some (v5, M6)))
def fn8_readGroup_b20B (N : Nat) (k20 : Nat → Int32 → Int32 → am_Mem → Option (Int32 × am_Mem)) (r0 : Nat) (x1 : Int32) (x2 : Int32) (M : am_Mem) : Option (Int32 × am_Mem) :=
  if (24 : Int32) < x2 then fn8_readGroup_b103 N  r0 M else am_ck (am_k M r0 8) (if (am_I M r0 3) = (2 : Int32) then if 0 ≤ (lg_cmp (am_J M r0 5) (1 : Int64)) then am_ck (am_k M (am_R M r0 10) 14) (am_ck (am_in (am_I M r0 8) (am_L M (am_R M r0 10))) (if (am_I M (am_R M r0 10) (am_I M r0 8).toNatClampNeg) < (24 : Int32) then am_ck (am_k M (am_R M r0 12) 19) (am_ck (am_in (am_I M r0 8) (am_L M (am_R M r0 12))) (am_ck (am_in (am_I M r0 8) (am_L M (am_R M r0 10))) (am_ck (am_k M (am_R M (am_R M r0 12) (am_I M r0 8).toNatClampNeg) 14) (am_ck (am_in (am_I M (am_R M r0 10) (am_I M r0 8).toNatClampNeg) (am_L M (am_R M (am_R M r0 12) (am_I M r0 8).toNatClampNeg))) (am_bd (fn8_holdValue (am_wI M (am_R M (am_R M r0 12) (am_I M r0 8).toNatClampNeg) (am_I M (am_R M r0 10) (am_I M r0 8).toNatClampNeg).toNatClampNeg x1) r0) (fun v9 M10 => am_ck (am_k M10 r0 8) (am_bd (fn8_nextToken N M10 r0) (fun v13 M14 => k20 r0 x1 (x2 + (1 : Int32)) M14)))))))) else am_bd (fn8_faultOf M r0 (4 : Int32)) (fun v16 M17 => some (v16, M17)))) else am_bd (fn8_faultOf M r0 (3 : Int32)) (fun v19 M20 => some (v19, M20)) else fn8_readGroup_b103 N  r0 M)
def fn8_readGroup_b20 (N : Nat)  : Nat → Nat → Int32 → Int32 → am_Mem → Option (Int32 × am_Mem)
  | 0 => fun _ _ _ _ => none
  | i + 1 => fn8_readGroup_b20B N (fn8_readGroup_b20 N  i)
def fn8_readGroup_b0 (N : Nat)  (r0 : Nat) (x1 : Int32) (M : am_Mem) : Option (Int32 × am_Mem) :=
  am_ck (am_k M r0 8) (am_bd (fn8_nextToken N M r0) (fun v2 M3 => am_ck (am_k M3 r0 8) (if (am_I M3 r0 3) = (2 : Int32) then fn8_readGroup_b20 N  N r0 x1 (0 : Int32) M3 else am_bd (fn8_faultOf M3 r0 (1 : Int32)) (fun v6 M7 => some (v6, M7)))))
def fn8_readGroup (N : Nat) (M : am_Mem) (r0 : Nat) (x1 : Int32) : Option (Int32 × am_Mem) := fn8_readGroup_b0 N r0 x1 M
def rm8_readGroup : Room := { frames := 2, cells := 0, slots := 0, locals := 40 }
set_option maxRecDepth 20000 in
theorem sn8_readGroup_b103 {l : Launch} {G : am_G} {v : Int32} {M' : am_Mem} {N : Nat}  (cx : am_Ctx l rm8_readGroup yX8_readGroup cX8_readGroup 3 (some .int) (some (.inl v)) M' 0 0 G)  {r0 : Nat} {M : am_Mem} (hres : fn8_readGroup_b103 N  r0 M = some (v, M')) : G 103 [(0, .inr (.inr (.inl r0)))] [] M 0 0 := by
  unfold fn8_readGroup_b103 at hres
  refine am_aload_n cx 0 dX8_readGroup_103 rfl ?_
  obtain ⟨q1, hres⟩ := am_ck_some hres
  refine am_getI cx dX8_readGroup_104 flX8_57 (am_ke q1) ?_
  refine am_iconst cx (v := (4 : Int32)) dX8_readGroup_107 (by decide) ?_
  refine am_icmp_eq cx (tgt := 117) dX8_readGroup_108 (by decide) (fun h => ?_) (fun h => ?_)
  · have hres := am_ifp h hres
    refine am_aload_n cx 0 dX8_readGroup_117 rfl ?_
    obtain ⟨v2, M3, q4, hres⟩ := am_bd_some hres
    refine am_callV0 cx [] dX8_readGroup_118 cvX8_54 (mt8_nextToken q4) (am_ke q1) ⟨rfl, rfl, Nat.le_of_ble_eq_true rfl, Nat.le_of_ble_eq_true rfl⟩ rfl (Nat.le_of_ble_eq_true rfl) ⟨Nat.le_of_ble_eq_true rfl, Nat.le_of_ble_eq_true rfl⟩ ?_
    refine am_iconst cx (v := (0 : Int32)) dX8_readGroup_121 (by decide) ?_
    obtain ⟨rfl, rfl⟩ := am_fin hres
    exact am_iret cx dX8_readGroup_122
  · have hres := am_ifn h hres
    refine am_aload_n cx 0 dX8_readGroup_111 rfl ?_
    refine am_iconst cx (v := (1 : Int32)) dX8_readGroup_112 (by decide) ?_
    obtain ⟨v5, M6, q7, hres⟩ := am_bd_some hres
    refine am_callV1 cx [.inl (1 : Int32)] dX8_readGroup_113 cvX8_72 (mt8_faultOf q7) (am_ke q1) ⟨rfl, rfl, Nat.le_of_ble_eq_true rfl, Nat.le_of_ble_eq_true rfl⟩ rfl (Nat.le_of_ble_eq_true rfl) ⟨Nat.le_of_ble_eq_true rfl, Nat.le_of_ble_eq_true rfl⟩ ?_
    obtain ⟨rfl, rfl⟩ := am_fin hres
    exact am_iret cx dX8_readGroup_116
set_option maxRecDepth 20000 in
theorem sn8_readGroup_b20B {l : Launch} {G : am_G} {v : Int32} {M' : am_Mem} {N : Nat} {k20 : Nat → Int32 → Int32 → am_Mem → Option (Int32 × am_Mem)} (cx : am_Ctx l rm8_readGroup yX8_readGroup cX8_readGroup 3 (some .int) (some (.inl v)) M' 0 0 G) (hk20 : ∀ (r0 : Nat) (x1 : Int32) (x2 : Int32) (M : am_Mem), k20 r0 x1 x2 M = some (v, M') → G 20 [(0, .inr (.inr (.inl r0))), (1, .inl x1), (2, .inl x2)] [] M 0 0) {r0 : Nat} {x1 : Int32} {x2 : Int32} {M : am_Mem} (hres : fn8_readGroup_b20B N k20 r0 x1 x2 M = some (v, M')) : G 20 [(0, .inr (.inr (.inl r0))), (1, .inl x1), (2, .inl x2)] [] M 0 0 := by
  unfold fn8_readGroup_b20B at hres
  refine am_iload_n cx 2 dX8_readGroup_20 rfl ?_
  refine am_bipush cx (v := (24 : Int32)) dX8_readGroup_21 (by decide) ?_
  refine am_icmp_gt cx (tgt := 103) dX8_readGroup_23 (by decide) (fun h => ?_) (fun h => ?_)
  · have hres := am_ifp h hres
    refine am_sub cx [0] rfl ?_
    exact sn8_readGroup_b103 cx  hres
  · have hres := am_ifn h hres
    refine am_aload_n cx 0 dX8_readGroup_26 rfl ?_
    obtain ⟨q1, hres⟩ := am_ck_some hres
    refine am_getI cx dX8_readGroup_27 flX8_57 (am_ke q1) ?_
    refine am_iconst cx (v := (2 : Int32)) dX8_readGroup_30 (by decide) ?_
    refine am_icmp_ne cx (tgt := 103) dX8_readGroup_31 (by decide) (fun h => ?_) (fun h => ?_)
    · have hres := am_ifn h hres
      refine am_sub cx [0] rfl ?_
      exact sn8_readGroup_b103 cx  hres
    · have hres := am_ifp h hres
      refine am_aload_n cx 0 dX8_readGroup_34 rfl ?_
      refine am_getJ cx dX8_readGroup_35 flX8_80 (am_ke q1) ?_
      refine am_lconst cx (v := (1 : Int64)) dX8_readGroup_38 (by decide) ?_
      refine am_lcmp cx dX8_readGroup_39 ?_
      refine am_if_ge cx (tgt := 49) dX8_readGroup_40 (by decide) (fun h => ?_) (fun h => ?_)
      · have hres := am_ifp h hres
        refine am_aload_n cx 0 dX8_readGroup_49 rfl ?_
        refine am_getR cx dX8_readGroup_50 flX8_23 (am_ke q1) ?_
        refine am_aload_n cx 0 dX8_readGroup_53 rfl ?_
        refine am_getI cx dX8_readGroup_54 flX8_51 (am_ke q1) ?_
        obtain ⟨q2, hres⟩ := am_ck_some hres
        obtain ⟨q3, hres⟩ := am_ck_some hres
        refine am_iald cx dX8_readGroup_57 (am_ke q2) q3 ?_
        refine am_bipush cx (v := (24 : Int32)) dX8_readGroup_58 (by decide) ?_
        refine am_icmp_lt cx (tgt := 69) dX8_readGroup_60 (by decide) (fun h => ?_) (fun h => ?_)
        · have hres := am_ifp h hres
          refine am_aload_n cx 0 dX8_readGroup_69 rfl ?_
          refine am_getR cx dX8_readGroup_70 flX8_32 (am_ke q1) ?_
          refine am_aload_n cx 0 dX8_readGroup_73 rfl ?_
          refine am_getI cx dX8_readGroup_74 flX8_51 (am_ke q1) ?_
          obtain ⟨q4, hres⟩ := am_ck_some hres
          obtain ⟨q5, hres⟩ := am_ck_some hres
          refine am_aald19 cx dX8_readGroup_77 (am_ke q4) q5 ?_
          refine am_aload_n cx 0 dX8_readGroup_78 rfl ?_
          refine am_getR cx dX8_readGroup_79 flX8_23 (am_ke q1) ?_
          refine am_aload_n cx 0 dX8_readGroup_82 rfl ?_
          refine am_getI cx dX8_readGroup_83 flX8_51 (am_ke q1) ?_
          obtain ⟨q6, hres⟩ := am_ck_some hres
          refine am_iald cx dX8_readGroup_86 (am_ke q2) q6 ?_
          refine am_iload_n cx 1 dX8_readGroup_87 rfl ?_
          obtain ⟨q7, hres⟩ := am_ck_some hres
          obtain ⟨q8, hres⟩ := am_ck_some hres
          refine am_iast cx dX8_readGroup_88 (am_ke q7) q8  ?_
          refine am_aload_n cx 0 dX8_readGroup_89 rfl ?_
          obtain ⟨v9, M10, q11, hres⟩ := am_bd_some hres
          refine am_callV0 cx [] dX8_readGroup_90 cvX8_93 (mt8_holdValue q11) (am_ke q1) ⟨rfl, rfl, Nat.le_of_ble_eq_true rfl, Nat.le_of_ble_eq_true rfl⟩ rfl (Nat.le_of_ble_eq_true rfl) ⟨Nat.le_of_ble_eq_true rfl, Nat.le_of_ble_eq_true rfl⟩ ?_
          refine am_aload_n cx 0 dX8_readGroup_93 rfl ?_
          obtain ⟨q12, hres⟩ := am_ck_some hres
          obtain ⟨v13, M14, q15, hres⟩ := am_bd_some hres
          refine am_callV0 cx [] dX8_readGroup_94 cvX8_54 (mt8_nextToken q15) (am_ke q12) ⟨rfl, rfl, Nat.le_of_ble_eq_true rfl, Nat.le_of_ble_eq_true rfl⟩ rfl (Nat.le_of_ble_eq_true rfl) ⟨Nat.le_of_ble_eq_true rfl, Nat.le_of_ble_eq_true rfl⟩ ?_
          refine am_iincw cx (lv' := [(0, .inr (.inr (.inl r0))), (1, .inl x1), (2, .inl (x2 + (1 : Int32)))]) (w := (1 : Int32)) 2 dX8_readGroup_97 (by decide) rfl (Nat.le_of_ble_eq_true rfl) rfl ?_
          refine am_goto cx (tgt := 20) dX8_readGroup_100 (by decide) ?_
          exact hk20 _ _ _ _ hres
        · have hres := am_ifn h hres
          refine am_aload_n cx 0 dX8_readGroup_63 rfl ?_
          refine am_iconst cx (v := (4 : Int32)) dX8_readGroup_64 (by decide) ?_
          obtain ⟨v16, M17, q18, hres⟩ := am_bd_some hres
          refine am_callV1 cx [.inl (4 : Int32)] dX8_readGroup_65 cvX8_72 (mt8_faultOf q18) (am_ke q1) ⟨rfl, rfl, Nat.le_of_ble_eq_true rfl, Nat.le_of_ble_eq_true rfl⟩ rfl (Nat.le_of_ble_eq_true rfl) ⟨Nat.le_of_ble_eq_true rfl, Nat.le_of_ble_eq_true rfl⟩ ?_
          obtain ⟨rfl, rfl⟩ := am_fin hres
          exact am_iret cx dX8_readGroup_68
      · have hres := am_ifn h hres
        refine am_aload_n cx 0 dX8_readGroup_43 rfl ?_
        refine am_iconst cx (v := (3 : Int32)) dX8_readGroup_44 (by decide) ?_
        obtain ⟨v19, M20, q21, hres⟩ := am_bd_some hres
        refine am_callV1 cx [.inl (3 : Int32)] dX8_readGroup_45 cvX8_72 (mt8_faultOf q21) (am_ke q1) ⟨rfl, rfl, Nat.le_of_ble_eq_true rfl, Nat.le_of_ble_eq_true rfl⟩ rfl (Nat.le_of_ble_eq_true rfl) ⟨Nat.le_of_ble_eq_true rfl, Nat.le_of_ble_eq_true rfl⟩ ?_
        obtain ⟨rfl, rfl⟩ := am_fin hres
        exact am_iret cx dX8_readGroup_48
set_option maxRecDepth 20000 in
theorem sn8_readGroup_b20 {l : Launch} {G : am_G} {v : Int32} {M' : am_Mem} {N : Nat}  (cx : am_Ctx l rm8_readGroup yX8_readGroup cX8_readGroup 3 (some .int) (some (.inl v)) M' 0 0 G)  (i : Nat) : ∀ (r0 : Nat) (x1 : Int32) (x2 : Int32) (M : am_Mem), fn8_readGroup_b20 N  i r0 x1 x2 M = some (v, M') → G 20 [(0, .inr (.inr (.inl r0))), (1, .inl x1), (2, .inl x2)] [] M 0 0 := by
  induction i with
  | zero => intro r0 x1 x2 M hres; exact am_no hres
  | succ i ih => intro r0 x1 x2 M hres; exact sn8_readGroup_b20B cx ih hres
set_option maxRecDepth 20000 in
theorem sn8_readGroup_b0 {l : Launch} {G : am_G} {v : Int32} {M' : am_Mem} {N : Nat}  (cx : am_Ctx l rm8_readGroup yX8_readGroup cX8_readGroup 3 (some .int) (some (.inl v)) M' 0 0 G)  {r0 : Nat} {x1 : Int32} {M : am_Mem} (hres : fn8_readGroup_b0 N  r0 x1 M = some (v, M')) : G 0 [(0, .inr (.inr (.inl r0))), (1, .inl x1)] [] M 0 0 := by
  unfold fn8_readGroup_b0 at hres
  refine am_aload_n cx 0 dX8_readGroup_0 rfl ?_
  obtain ⟨q1, hres⟩ := am_ck_some hres
  obtain ⟨v2, M3, q4, hres⟩ := am_bd_some hres
  refine am_callV0 cx [] dX8_readGroup_1 cvX8_54 (mt8_nextToken q4) (am_ke q1) ⟨rfl, rfl, Nat.le_of_ble_eq_true rfl, Nat.le_of_ble_eq_true rfl⟩ rfl (Nat.le_of_ble_eq_true rfl) ⟨Nat.le_of_ble_eq_true rfl, Nat.le_of_ble_eq_true rfl⟩ ?_
  refine am_aload_n cx 0 dX8_readGroup_4 rfl ?_
  obtain ⟨q5, hres⟩ := am_ck_some hres
  refine am_getI cx dX8_readGroup_5 flX8_57 (am_ke q5) ?_
  refine am_iconst cx (v := (2 : Int32)) dX8_readGroup_8 (by decide) ?_
  refine am_icmp_eq cx (tgt := 18) dX8_readGroup_9 (by decide) (fun h => ?_) (fun h => ?_)
  · have hres := am_ifp h hres
    refine am_iconst cx (v := (0 : Int32)) dX8_readGroup_18 (by decide) ?_
    refine am_istore_n cx (lv' := [(0, .inr (.inr (.inl r0))), (1, .inl x1), (2, .inl (0 : Int32))]) dX8_readGroup_19 (Nat.le_of_ble_eq_true rfl) rfl ?_
    exact sn8_readGroup_b20 cx  N _ _ _ _ hres
  · have hres := am_ifn h hres
    refine am_aload_n cx 0 dX8_readGroup_12 rfl ?_
    refine am_iconst cx (v := (1 : Int32)) dX8_readGroup_13 (by decide) ?_
    obtain ⟨v6, M7, q8, hres⟩ := am_bd_some hres
    refine am_callV1 cx [.inl (1 : Int32)] dX8_readGroup_14 cvX8_72 (mt8_faultOf q8) (am_ke q5) ⟨rfl, rfl, Nat.le_of_ble_eq_true rfl, Nat.le_of_ble_eq_true rfl⟩ rfl (Nat.le_of_ble_eq_true rfl) ⟨Nat.le_of_ble_eq_true rfl, Nat.le_of_ble_eq_true rfl⟩ ?_
    obtain ⟨rfl, rfl⟩ := am_fin hres
    exact am_iret cx dX8_readGroup_17
set_option maxRecDepth 20000 in
theorem mt8_readGroup {l : Launch} {v : Int32} {M M' : am_Mem} {N : Nat} {r0 : Nat} {x1 : Int32} (h : fn8_readGroup N M r0 x1 = some (v, M')) : am_Met l yX8_readGroup cX8_readGroup 3 (some .int) rm8_readGroup 0 0 [.inr (.inr (.inl r0)), .inl x1] M (some (.inl v)) M' := am_mk (by decide) (Nat.le_of_ble_eq_true rfl) (fun G cx => (sn8_readGroup_b0 cx h))
-- SquareCuts$Reader.readWire
def fn8_readWire_b72 (N : Nat)  (r0 : Nat) (M : am_Mem) : Option (Int32 × am_Mem) :=
  am_ck (am_k M r0 8) (am_bd (fn8_faultOf M r0 (3 : Int32)) (fun v2 M3 => some (v2, M3)))
def fn8_readWire_b6 (N : Nat)  (r0 : Nat) (x1 : Int32) (j2 : Int64) (j4 : Int64) (M : am_Mem) : Option (Int32 × am_Mem) :=
  if (lg_cmp j4 j2) < 0 then if x1 < (14 : Int32) then am_ck (am_k M r0 8) (am_bd (fn8_holdValue M r0) (fun v2 M3 => am_ck (am_k M3 r0 8) (am_bd (fn8_nextToken N M3 r0) (fun v6 M7 => am_ck (am_k M7 r0 8) (if (am_I M7 r0 3) = (2 : Int32) then if 0 ≤ (lg_cmp (am_J M7 r0 5) j2) then fn8_readWire_b72 N  r0 M7 else if (lg_cmp (am_J M7 r0 5) j4) = 0 then fn8_readWire_b72 N  r0 M7 else am_bd (fn8_holdValue M7 r0) (fun v10 M11 => am_ck (am_k M11 r0 8) (am_bd (fn8_nextToken N M11 r0) (fun v14 M15 => some ((0 : Int32), M15)))) else am_bd (fn8_faultOf M7 r0 (1 : Int32)) (fun v17 M18 => some (v17, M18))))))) else am_ck (am_k M r0 8) (am_bd (fn8_faultOf M r0 (4 : Int32)) (fun v21 M22 => some (v21, M22))) else am_ck (am_k M r0 8) (am_bd (fn8_faultOf M r0 (3 : Int32)) (fun v25 M26 => some (v25, M26)))
def fn8_readWire_b0 (N : Nat)  (r0 : Nat) (x1 : Int32) (j2 : Int64) (M : am_Mem) : Option (Int32 × am_Mem) :=
  am_ck (am_k M r0 8) (fn8_readWire_b6 N  r0 x1 j2 (am_J M r0 5) M)
def fn8_readWire (N : Nat) (M : am_Mem) (r0 : Nat) (x1 : Int32) (j2 : Int64) : Option (Int32 × am_Mem) := fn8_readWire_b0 N r0 x1 j2 M
def rm8_readWire : Room := { frames := 2, cells := 0, slots := 0, locals := 40 }
set_option maxRecDepth 20000 in
theorem sn8_readWire_b72 {l : Launch} {G : am_G} {v : Int32} {M' : am_Mem} {N : Nat}  (cx : am_Ctx l rm8_readWire yX8_readWire cX8_readWire 6 (some .int) (some (.inl v)) M' 0 0 G)  {r0 : Nat} {M : am_Mem} (hres : fn8_readWire_b72 N  r0 M = some (v, M')) : G 72 [(0, .inr (.inr (.inl r0)))] [] M 0 0 := by
  unfold fn8_readWire_b72 at hres
  refine am_aload_n cx 0 dX8_readWire_72 rfl ?_
  refine am_iconst cx (v := (3 : Int32)) dX8_readWire_73 (by decide) ?_
  obtain ⟨q1, hres⟩ := am_ck_some hres
  obtain ⟨v2, M3, q4, hres⟩ := am_bd_some hres
  refine am_callV1 cx [.inl (3 : Int32)] dX8_readWire_74 cvX8_72 (mt8_faultOf q4) (am_ke q1) ⟨rfl, rfl, Nat.le_of_ble_eq_true rfl, Nat.le_of_ble_eq_true rfl⟩ rfl (Nat.le_of_ble_eq_true rfl) ⟨Nat.le_of_ble_eq_true rfl, Nat.le_of_ble_eq_true rfl⟩ ?_
  obtain ⟨rfl, rfl⟩ := am_fin hres
  exact am_iret cx dX8_readWire_77
set_option maxRecDepth 20000 in
theorem sn8_readWire_b6 {l : Launch} {G : am_G} {v : Int32} {M' : am_Mem} {N : Nat}  (cx : am_Ctx l rm8_readWire yX8_readWire cX8_readWire 6 (some .int) (some (.inl v)) M' 0 0 G)  {r0 : Nat} {x1 : Int32} {j2 : Int64} {j4 : Int64} {M : am_Mem} (hres : fn8_readWire_b6 N  r0 x1 j2 j4 M = some (v, M')) : G 6 [(0, .inr (.inr (.inl r0))), (1, .inl x1), (2, .inr (.inl j2)), (4, .inr (.inl j4))] [] M 0 0 := by
  unfold fn8_readWire_b6 at hres
  refine am_lload cx 3 dX8_readWire_6 rfl ?_
  refine am_lload_n cx 2 dX8_readWire_8 rfl ?_
  refine am_lcmp cx dX8_readWire_9 ?_
  refine am_if_lt cx (tgt := 19) dX8_readWire_10 (by decide) (fun h => ?_) (fun h => ?_)
  · have hres := am_ifp h hres
    refine am_iload_n cx 1 dX8_readWire_19 rfl ?_
    refine am_bipush cx (v := (14 : Int32)) dX8_readWire_20 (by decide) ?_
    refine am_icmp_lt cx (tgt := 31) dX8_readWire_22 (by decide) (fun h => ?_) (fun h => ?_)
    · have hres := am_ifp h hres
      refine am_aload_n cx 0 dX8_readWire_31 rfl ?_
      obtain ⟨q1, hres⟩ := am_ck_some hres
      obtain ⟨v2, M3, q4, hres⟩ := am_bd_some hres
      refine am_callV0 cx [] dX8_readWire_32 cvX8_93 (mt8_holdValue q4) (am_ke q1) ⟨rfl, rfl, Nat.le_of_ble_eq_true rfl, Nat.le_of_ble_eq_true rfl⟩ rfl (Nat.le_of_ble_eq_true rfl) ⟨Nat.le_of_ble_eq_true rfl, Nat.le_of_ble_eq_true rfl⟩ ?_
      refine am_aload_n cx 0 dX8_readWire_35 rfl ?_
      obtain ⟨q5, hres⟩ := am_ck_some hres
      obtain ⟨v6, M7, q8, hres⟩ := am_bd_some hres
      refine am_callV0 cx [] dX8_readWire_36 cvX8_54 (mt8_nextToken q8) (am_ke q5) ⟨rfl, rfl, Nat.le_of_ble_eq_true rfl, Nat.le_of_ble_eq_true rfl⟩ rfl (Nat.le_of_ble_eq_true rfl) ⟨Nat.le_of_ble_eq_true rfl, Nat.le_of_ble_eq_true rfl⟩ ?_
      refine am_aload_n cx 0 dX8_readWire_39 rfl ?_
      obtain ⟨q9, hres⟩ := am_ck_some hres
      refine am_getI cx dX8_readWire_40 flX8_57 (am_ke q9) ?_
      refine am_iconst cx (v := (2 : Int32)) dX8_readWire_43 (by decide) ?_
      refine am_icmp_eq cx (tgt := 53) dX8_readWire_44 (by decide) (fun h => ?_) (fun h => ?_)
      · have hres := am_ifp h hres
        refine am_aload_n cx 0 dX8_readWire_53 rfl ?_
        refine am_getJ cx dX8_readWire_54 flX8_80 (am_ke q9) ?_
        refine am_lload_n cx 2 dX8_readWire_57 rfl ?_
        refine am_lcmp cx dX8_readWire_58 ?_
        refine am_if_ge cx (tgt := 72) dX8_readWire_59 (by decide) (fun h => ?_) (fun h => ?_)
        · have hres := am_ifp h hres
          refine am_sub cx [0] rfl ?_
          exact sn8_readWire_b72 cx  hres
        · have hres := am_ifn h hres
          refine am_aload_n cx 0 dX8_readWire_62 rfl ?_
          refine am_getJ cx dX8_readWire_63 flX8_80 (am_ke q9) ?_
          refine am_lload cx 3 dX8_readWire_66 rfl ?_
          refine am_lcmp cx dX8_readWire_68 ?_
          refine am_if_ne cx (tgt := 78) dX8_readWire_69 (by decide) (fun h => ?_) (fun h => ?_)
          · have hres := am_ifn h hres
            refine am_aload_n cx 0 dX8_readWire_78 rfl ?_
            obtain ⟨v10, M11, q12, hres⟩ := am_bd_some hres
            refine am_callV0 cx [] dX8_readWire_79 cvX8_93 (mt8_holdValue q12) (am_ke q9) ⟨rfl, rfl, Nat.le_of_ble_eq_true rfl, Nat.le_of_ble_eq_true rfl⟩ rfl (Nat.le_of_ble_eq_true rfl) ⟨Nat.le_of_ble_eq_true rfl, Nat.le_of_ble_eq_true rfl⟩ ?_
            refine am_aload_n cx 0 dX8_readWire_82 rfl ?_
            obtain ⟨q13, hres⟩ := am_ck_some hres
            obtain ⟨v14, M15, q16, hres⟩ := am_bd_some hres
            refine am_callV0 cx [] dX8_readWire_83 cvX8_54 (mt8_nextToken q16) (am_ke q13) ⟨rfl, rfl, Nat.le_of_ble_eq_true rfl, Nat.le_of_ble_eq_true rfl⟩ rfl (Nat.le_of_ble_eq_true rfl) ⟨Nat.le_of_ble_eq_true rfl, Nat.le_of_ble_eq_true rfl⟩ ?_
            refine am_iconst cx (v := (0 : Int32)) dX8_readWire_86 (by decide) ?_
            obtain ⟨rfl, rfl⟩ := am_fin hres
            exact am_iret cx dX8_readWire_87
          · have hres := am_ifp h hres
            refine am_sub cx [0] rfl ?_
            exact sn8_readWire_b72 cx  hres
      · have hres := am_ifn h hres
        refine am_aload_n cx 0 dX8_readWire_47 rfl ?_
        refine am_iconst cx (v := (1 : Int32)) dX8_readWire_48 (by decide) ?_
        obtain ⟨v17, M18, q19, hres⟩ := am_bd_some hres
        refine am_callV1 cx [.inl (1 : Int32)] dX8_readWire_49 cvX8_72 (mt8_faultOf q19) (am_ke q9) ⟨rfl, rfl, Nat.le_of_ble_eq_true rfl, Nat.le_of_ble_eq_true rfl⟩ rfl (Nat.le_of_ble_eq_true rfl) ⟨Nat.le_of_ble_eq_true rfl, Nat.le_of_ble_eq_true rfl⟩ ?_
        obtain ⟨rfl, rfl⟩ := am_fin hres
        exact am_iret cx dX8_readWire_52
    · have hres := am_ifn h hres
      refine am_aload_n cx 0 dX8_readWire_25 rfl ?_
      refine am_iconst cx (v := (4 : Int32)) dX8_readWire_26 (by decide) ?_
      obtain ⟨q20, hres⟩ := am_ck_some hres
      obtain ⟨v21, M22, q23, hres⟩ := am_bd_some hres
      refine am_callV1 cx [.inl (4 : Int32)] dX8_readWire_27 cvX8_72 (mt8_faultOf q23) (am_ke q20) ⟨rfl, rfl, Nat.le_of_ble_eq_true rfl, Nat.le_of_ble_eq_true rfl⟩ rfl (Nat.le_of_ble_eq_true rfl) ⟨Nat.le_of_ble_eq_true rfl, Nat.le_of_ble_eq_true rfl⟩ ?_
      obtain ⟨rfl, rfl⟩ := am_fin hres
      exact am_iret cx dX8_readWire_30
  · have hres := am_ifn h hres
    refine am_aload_n cx 0 dX8_readWire_13 rfl ?_
    refine am_iconst cx (v := (3 : Int32)) dX8_readWire_14 (by decide) ?_
    obtain ⟨q24, hres⟩ := am_ck_some hres
    obtain ⟨v25, M26, q27, hres⟩ := am_bd_some hres
    refine am_callV1 cx [.inl (3 : Int32)] dX8_readWire_15 cvX8_72 (mt8_faultOf q27) (am_ke q24) ⟨rfl, rfl, Nat.le_of_ble_eq_true rfl, Nat.le_of_ble_eq_true rfl⟩ rfl (Nat.le_of_ble_eq_true rfl) ⟨Nat.le_of_ble_eq_true rfl, Nat.le_of_ble_eq_true rfl⟩ ?_
    obtain ⟨rfl, rfl⟩ := am_fin hres
    exact am_iret cx dX8_readWire_18
set_option maxRecDepth 20000 in
theorem sn8_readWire_b0 {l : Launch} {G : am_G} {v : Int32} {M' : am_Mem} {N : Nat}  (cx : am_Ctx l rm8_readWire yX8_readWire cX8_readWire 6 (some .int) (some (.inl v)) M' 0 0 G)  {r0 : Nat} {x1 : Int32} {j2 : Int64} {M : am_Mem} (hres : fn8_readWire_b0 N  r0 x1 j2 M = some (v, M')) : G 0 [(0, .inr (.inr (.inl r0))), (1, .inl x1), (2, .inr (.inl j2))] [] M 0 0 := by
  unfold fn8_readWire_b0 at hres
  refine am_aload_n cx 0 dX8_readWire_0 rfl ?_
  obtain ⟨q1, hres⟩ := am_ck_some hres
  refine am_getJ cx dX8_readWire_1 flX8_80 (am_ke q1) ?_
  refine am_lstore cx (lv' := [(0, .inr (.inr (.inl r0))), (1, .inl x1), (2, .inr (.inl j2)), (4, .inr (.inl (am_J M r0 5)))]) dX8_readWire_4 (Nat.le_of_ble_eq_true rfl) rfl ?_
  exact sn8_readWire_b6 cx  hres
set_option maxRecDepth 20000 in
theorem mt8_readWire {l : Launch} {v : Int32} {M M' : am_Mem} {N : Nat} {r0 : Nat} {x1 : Int32} {j2 : Int64} (h : fn8_readWire N M r0 x1 j2 = some (v, M')) : am_Met l yX8_readWire cX8_readWire 6 (some .int) rm8_readWire 0 0 [.inr (.inr (.inl r0)), .inl x1, .inr (.inl j2)] M (some (.inl v)) M' := am_mk (by decide) (Nat.le_of_ble_eq_true rfl) (fun G cx => (sn8_readWire_b0 cx h))
