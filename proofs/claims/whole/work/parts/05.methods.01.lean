-- SquareCuts$Outline.notchLeft
def fn6_notchLeft_b22  (a0 : Int32) (M : am_Mem) : Option (Int32 × am_Mem) :=
  some (a0, M)
def fn6_notchLeft_b0  (r0 : Nat) (M : am_Mem) : Option (Int32 × am_Mem) :=
  am_ck (am_k M r0 6) (if (am_I M r0 2) = 0 then fn6_notchLeft_b22  (0 : Int32) M else am_ck (am_k M (am_R M r0 0) 14) (am_ck (am_in ((am_I M r0 2) - (1 : Int32)) (am_L M (am_R M r0 0))) (fn6_notchLeft_b22  (am_I M (am_R M r0 0) ((am_I M r0 2) - (1 : Int32)).toNatClampNeg) M)))
def fn6_notchLeft (M : am_Mem) (r0 : Nat) : Option (Int32 × am_Mem) := fn6_notchLeft_b0  r0 M
def rm6_notchLeft : Room := { frames := 0, cells := 0, slots := 0, locals := 0 }
set_option maxRecDepth 20000 in
theorem sn6_notchLeft_b22 {l : Launch} {G : am_G} {v : Int32} {M' : am_Mem}  (cx : am_Ctx l rm6_notchLeft yX6_notchLeft cX6_notchLeft 1 (some .int) (some (.inl v)) M' 0 0 G)  {a0 : Int32} {M : am_Mem} (hres : fn6_notchLeft_b22  a0 M = some (v, M')) : G 22 [] [.inl a0] M 0 0 := by
  unfold fn6_notchLeft_b22 at hres
  obtain ⟨rfl, rfl⟩ := am_fin hres
  exact am_iret cx dX6_notchLeft_22
set_option maxRecDepth 20000 in
theorem sn6_notchLeft_b0 {l : Launch} {G : am_G} {v : Int32} {M' : am_Mem}  (cx : am_Ctx l rm6_notchLeft yX6_notchLeft cX6_notchLeft 1 (some .int) (some (.inl v)) M' 0 0 G)  {r0 : Nat} {M : am_Mem} (hres : fn6_notchLeft_b0  r0 M = some (v, M')) : G 0 [(0, .inr (.inr (.inl r0)))] [] M 0 0 := by
  unfold fn6_notchLeft_b0 at hres
  refine am_aload_n cx 0 dX6_notchLeft_0 rfl ?_
  obtain ⟨q1, hres⟩ := am_ck_some hres
  refine am_getI cx dX6_notchLeft_1 flX6_20 (am_ke q1) ?_
  refine am_if_ne cx (tgt := 11) dX6_notchLeft_4 (by decide) (fun h => ?_) (fun h => ?_)
  · have hres := am_ifn h hres
    refine am_aload_n cx 0 dX6_notchLeft_11 rfl ?_
    refine am_getR cx dX6_notchLeft_12 flX6_7 (am_ke q1) ?_
    refine am_aload_n cx 0 dX6_notchLeft_15 rfl ?_
    refine am_getI cx dX6_notchLeft_16 flX6_20 (am_ke q1) ?_
    refine am_iconst cx (v := (1 : Int32)) dX6_notchLeft_19 (by decide) ?_
    refine am_isub cx dX6_notchLeft_20 ?_
    obtain ⟨q2, hres⟩ := am_ck_some hres
    obtain ⟨q3, hres⟩ := am_ck_some hres
    refine am_iald cx dX6_notchLeft_21 (am_ke q2) q3 ?_
    refine am_sub cx [] rfl ?_
    exact sn6_notchLeft_b22 cx  hres
  · have hres := am_ifp h hres
    refine am_iconst cx (v := (0 : Int32)) dX6_notchLeft_7 (by decide) ?_
    refine am_goto cx (tgt := 22) dX6_notchLeft_8 (by decide) ?_
    refine am_sub cx [] rfl ?_
    exact sn6_notchLeft_b22 cx  hres
set_option maxRecDepth 20000 in
theorem mt6_notchLeft {l : Launch} {v : Int32} {M M' : am_Mem} {r0 : Nat} (h : fn6_notchLeft M r0 = some (v, M')) : am_Met l yX6_notchLeft cX6_notchLeft 1 (some .int) rm6_notchLeft 0 0 [.inr (.inr (.inl r0))] M (some (.inl v)) M' := am_mk (by decide) (Nat.le_of_ble_eq_true rfl) (fun G cx => (sn6_notchLeft_b0 cx h))
-- SquareCuts$Outline.notchWidth
def fn6_notchWidth_b0  (r0 : Nat) (M : am_Mem) : Option (Int32 × am_Mem) :=
  am_ck (am_k M r0 6) (am_ck (am_k M (am_R M r0 0) 14) (am_ck (am_in (am_I M r0 2) (am_L M (am_R M r0 0))) (am_bd (fn6_notchLeft M r0) (fun v4 M5 => some (((am_I M (am_R M r0 0) (am_I M r0 2).toNatClampNeg) - v4), M5)))))
def fn6_notchWidth (M : am_Mem) (r0 : Nat) : Option (Int32 × am_Mem) := fn6_notchWidth_b0  r0 M
def rm6_notchWidth : Room := { frames := 1, cells := 0, slots := 0, locals := 20 }
set_option maxRecDepth 20000 in
theorem sn6_notchWidth_b0 {l : Launch} {G : am_G} {v : Int32} {M' : am_Mem}  (cx : am_Ctx l rm6_notchWidth yX6_notchWidth cX6_notchWidth 1 (some .int) (some (.inl v)) M' 0 0 G)  {r0 : Nat} {M : am_Mem} (hres : fn6_notchWidth_b0  r0 M = some (v, M')) : G 0 [(0, .inr (.inr (.inl r0)))] [] M 0 0 := by
  unfold fn6_notchWidth_b0 at hres
  refine am_aload_n cx 0 dX6_notchWidth_0 rfl ?_
  obtain ⟨q1, hres⟩ := am_ck_some hres
  refine am_getR cx dX6_notchWidth_1 flX6_7 (am_ke q1) ?_
  refine am_aload_n cx 0 dX6_notchWidth_4 rfl ?_
  refine am_getI cx dX6_notchWidth_5 flX6_20 (am_ke q1) ?_
  obtain ⟨q2, hres⟩ := am_ck_some hres
  obtain ⟨q3, hres⟩ := am_ck_some hres
  refine am_iald cx dX6_notchWidth_8 (am_ke q2) q3 ?_
  refine am_aload_n cx 0 dX6_notchWidth_9 rfl ?_
  obtain ⟨v4, M5, q6, hres⟩ := am_bd_some hres
  refine am_callV1 cx [] dX6_notchWidth_10 cvX6_35 (mt6_notchLeft q6) (am_ke q1) ⟨rfl, rfl, Nat.le_of_ble_eq_true rfl, Nat.le_of_ble_eq_true rfl⟩ rfl (Nat.le_of_ble_eq_true rfl) ⟨Nat.le_of_ble_eq_true rfl, Nat.le_of_ble_eq_true rfl⟩ ?_
  refine am_isub cx dX6_notchWidth_13 ?_
  obtain ⟨rfl, rfl⟩ := am_fin hres
  exact am_iret cx dX6_notchWidth_14
set_option maxRecDepth 20000 in
theorem mt6_notchWidth {l : Launch} {v : Int32} {M M' : am_Mem} {r0 : Nat} (h : fn6_notchWidth M r0 = some (v, M')) : am_Met l yX6_notchWidth cX6_notchWidth 1 (some .int) rm6_notchWidth 0 0 [.inr (.inr (.inl r0))] M (some (.inl v)) M' := am_mk (by decide) (Nat.le_of_ble_eq_true rfl) (fun G cx => (sn6_notchWidth_b0 cx h))
-- SquareCuts$Outline.notchDepth
def fn6_notchDepth_b0  (r0 : Nat) (M : am_Mem) : Option (Int32 × am_Mem) :=
  am_ck (am_k M r0 6) (am_ck (am_k M (am_R M r0 1) 14) (am_ck (am_in (am_I M r0 2) (am_L M (am_R M r0 1))) (some ((am_I M (am_R M r0 1) (am_I M r0 2).toNatClampNeg), M))))
def fn6_notchDepth (M : am_Mem) (r0 : Nat) : Option (Int32 × am_Mem) := fn6_notchDepth_b0  r0 M
def rm6_notchDepth : Room := { frames := 0, cells := 0, slots := 0, locals := 0 }
set_option maxRecDepth 20000 in
theorem sn6_notchDepth_b0 {l : Launch} {G : am_G} {v : Int32} {M' : am_Mem}  (cx : am_Ctx l rm6_notchDepth yX6_notchDepth cX6_notchDepth 1 (some .int) (some (.inl v)) M' 0 0 G)  {r0 : Nat} {M : am_Mem} (hres : fn6_notchDepth_b0  r0 M = some (v, M')) : G 0 [(0, .inr (.inr (.inl r0)))] [] M 0 0 := by
  unfold fn6_notchDepth_b0 at hres
  refine am_aload_n cx 0 dX6_notchDepth_0 rfl ?_
  obtain ⟨q1, hres⟩ := am_ck_some hres
  refine am_getR cx dX6_notchDepth_1 flX6_13 (am_ke q1) ?_
  refine am_aload_n cx 0 dX6_notchDepth_4 rfl ?_
  refine am_getI cx dX6_notchDepth_5 flX6_20 (am_ke q1) ?_
  obtain ⟨q2, hres⟩ := am_ck_some hres
  obtain ⟨q3, hres⟩ := am_ck_some hres
  refine am_iald cx dX6_notchDepth_8 (am_ke q2) q3 ?_
  obtain ⟨rfl, rfl⟩ := am_fin hres
  exact am_iret cx dX6_notchDepth_9
set_option maxRecDepth 20000 in
theorem mt6_notchDepth {l : Launch} {v : Int32} {M M' : am_Mem} {r0 : Nat} (h : fn6_notchDepth M r0 = some (v, M')) : am_Met l yX6_notchDepth cX6_notchDepth 1 (some .int) rm6_notchDepth 0 0 [.inr (.inr (.inl r0))] M (some (.inl v)) M' := am_mk (by decide) (Nat.le_of_ble_eq_true rfl) (fun G cx => (sn6_notchDepth_b0 cx h))
-- SquareCuts$Outline.splitNotch
def fn6_splitNotch_b53B (N : Nat) (k53 : Nat → Int32 → Int32 → Int32 → am_Mem → Option (Unit × am_Mem)) (r0 : Nat) (x1 : Int32) (x2 : Int32) (x3 : Int32) (M : am_Mem) : Option (Unit × am_Mem) :=
  am_ck (am_k M r0 6) (if x3 ≤ (am_I M r0 2) then am_ck (am_k M (am_R M r0 0) 14) (am_ck (am_in (am_I (am_wI M r0 3 ((am_I M r0 3) + (1 : Int32))) r0 2) (am_L M (am_R M r0 0))) (am_ck (am_k M (am_R M r0 1) 14) (am_ck (am_in (am_I (am_wI (am_wI M r0 3 ((am_I M r0 3) + (1 : Int32))) (am_R M r0 0) (am_I (am_wI M r0 3 ((am_I M r0 3) + (1 : Int32))) r0 2).toNatClampNeg x1) r0 2) (am_L M (am_R M r0 1))) (some ((), (am_wI (am_wI (am_wI (am_wI M r0 3 ((am_I M r0 3) + (1 : Int32))) (am_R M r0 0) (am_I (am_wI M r0 3 ((am_I M r0 3) + (1 : Int32))) r0 2).toNatClampNeg x1) (am_R M r0 1) (am_I (am_wI (am_wI M r0 3 ((am_I M r0 3) + (1 : Int32))) (am_R M r0 0) (am_I (am_wI M r0 3 ((am_I M r0 3) + (1 : Int32))) r0 2).toNatClampNeg x1) r0 2).toNatClampNeg x2) r0 2 ((am_I (am_wI (am_wI (am_wI M r0 3 ((am_I M r0 3) + (1 : Int32))) (am_R M r0 0) (am_I (am_wI M r0 3 ((am_I M r0 3) + (1 : Int32))) r0 2).toNatClampNeg x1) (am_R M r0 1) (am_I (am_wI (am_wI M r0 3 ((am_I M r0 3) + (1 : Int32))) (am_R M r0 0) (am_I (am_wI M r0 3 ((am_I M r0 3) + (1 : Int32))) r0 2).toNatClampNeg x1) r0 2).toNatClampNeg x2) r0 2) + (1 : Int32)))))))) else am_ck (am_k M (am_R M r0 0) 14) (am_ck (am_in (x3 - (1 : Int32)) (am_L M (am_R M r0 0))) (am_ck (am_in x3 (am_L M (am_R M r0 0))) (am_ck (am_k M (am_R M r0 1) 14) (am_ck (am_in (x3 - (1 : Int32)) (am_L M (am_R M r0 1))) (am_ck (am_in x3 (am_L M (am_R M r0 1))) (k53 r0 x1 x2 (x3 + (-1 : Int32)) (am_wI (am_wI M (am_R M r0 0) x3.toNatClampNeg (am_I M (am_R M r0 0) (x3 - (1 : Int32)).toNatClampNeg)) (am_R M r0 1) x3.toNatClampNeg (am_I (am_wI M (am_R M r0 0) x3.toNatClampNeg (am_I M (am_R M r0 0) (x3 - (1 : Int32)).toNatClampNeg)) (am_R M r0 1) (x3 - (1 : Int32)).toNatClampNeg)))))))))
def fn6_splitNotch_b53 (N : Nat)  : Nat → Nat → Int32 → Int32 → Int32 → am_Mem → Option (Unit × am_Mem)
  | 0 => fun _ _ _ _ _ => none
  | i + 1 => fn6_splitNotch_b53B N (fn6_splitNotch_b53 N  i)
def fn6_splitNotch_b35 (N : Nat)  (r0 : Nat) (x1 : Int32) (x2 : Int32) (M : am_Mem) : Option (Unit × am_Mem) :=
  am_ck (am_k M r0 6) (am_ck (am_k M (am_R M r0 0) 14) (if (am_I M r0 3) < (Int32.ofNat (am_L M (am_R M r0 0))) then fn6_splitNotch_b53 N  N r0 x1 x2 (am_I M r0 3) M else some ((), M)))
def fn6_splitNotch_b0 (N : Nat)  (r0 : Nat) (x1 : Int32) (x2 : Int32) (M : am_Mem) : Option (Unit × am_Mem) :=
  am_ck (am_k M r0 6) (if (am_I M r0 2) ≤ 0 then fn6_splitNotch_b35 N  r0 x1 x2 M else am_ck (am_k M (am_R M r0 1) 14) (am_ck (am_in ((am_I M r0 2) - (1 : Int32)) (am_L M (am_R M r0 1))) (if (am_I M (am_R M r0 1) ((am_I M r0 2) - (1 : Int32)).toNatClampNeg) = x2 then am_ck (am_k M (am_R M r0 0) 14) (am_ck (am_in ((am_I M r0 2) - (1 : Int32)) (am_L M (am_R M r0 0))) (some ((), (am_wI M (am_R M r0 0) ((am_I M r0 2) - (1 : Int32)).toNatClampNeg x1)))) else fn6_splitNotch_b35 N  r0 x1 x2 M)))
def fn6_splitNotch (N : Nat) (M : am_Mem) (r0 : Nat) (x1 : Int32) (x2 : Int32) : Option (Unit × am_Mem) := fn6_splitNotch_b0 N r0 x1 x2 M
def rm6_splitNotch : Room := { frames := 0, cells := 0, slots := 0, locals := 0 }
set_option maxRecDepth 20000 in
theorem sn6_splitNotch_b53B {l : Launch} {G : am_G} {M' : am_Mem} {N : Nat} {k53 : Nat → Int32 → Int32 → Int32 → am_Mem → Option (Unit × am_Mem)} (cx : am_Ctx l rm6_splitNotch yX6_splitNotch cX6_splitNotch 4 none none M' 0 0 G) (hk53 : ∀ (r0 : Nat) (x1 : Int32) (x2 : Int32) (x3 : Int32) (M : am_Mem), k53 r0 x1 x2 x3 M = some ((), M') → G 53 [(0, .inr (.inr (.inl r0))), (1, .inl x1), (2, .inl x2), (3, .inl x3)] [] M 0 0) {r0 : Nat} {x1 : Int32} {x2 : Int32} {x3 : Int32} {M : am_Mem} (hres : fn6_splitNotch_b53B N k53 r0 x1 x2 x3 M = some ((), M')) : G 53 [(0, .inr (.inr (.inl r0))), (1, .inl x1), (2, .inl x2), (3, .inl x3)] [] M 0 0 := by
  unfold fn6_splitNotch_b53B at hres
  refine am_iload_n cx 3 dX6_splitNotch_53 rfl ?_
  refine am_aload_n cx 0 dX6_splitNotch_54 rfl ?_
  obtain ⟨q1, hres⟩ := am_ck_some hres
  refine am_getI cx dX6_splitNotch_55 flX6_20 (am_ke q1) ?_
  refine am_icmp_le cx (tgt := 95) dX6_splitNotch_58 (by decide) (fun h => ?_) (fun h => ?_)
  · have hres := am_ifp h hres
    refine am_aload_n cx 0 dX6_splitNotch_95 rfl ?_
    refine am_dup cx dX6_splitNotch_96 rfl ?_
    refine am_getI cx dX6_splitNotch_97 flX6_16 (am_ke q1) ?_
    refine am_iconst cx (v := (1 : Int32)) dX6_splitNotch_100 (by decide) ?_
    refine am_iadd cx dX6_splitNotch_101 ?_
    refine am_putI cx dX6_splitNotch_102 fpX6_16 (fun h => by cases h) (am_ke q1) ?_
    refine am_aload_n cx 0 dX6_splitNotch_105 rfl ?_
    refine am_getR cx dX6_splitNotch_106 flX6_7 (am_ke q1) ?_
    refine am_aload_n cx 0 dX6_splitNotch_109 rfl ?_
    refine am_getI cx dX6_splitNotch_110 flX6_20 (am_ke q1) ?_
    refine am_iload_n cx 1 dX6_splitNotch_113 rfl ?_
    obtain ⟨q2, hres⟩ := am_ck_some hres
    obtain ⟨q3, hres⟩ := am_ck_some hres
    refine am_iast cx dX6_splitNotch_114 (am_ke q2) q3  ?_
    refine am_aload_n cx 0 dX6_splitNotch_115 rfl ?_
    refine am_getR cx dX6_splitNotch_116 flX6_13 (am_ke q1) ?_
    refine am_aload_n cx 0 dX6_splitNotch_119 rfl ?_
    refine am_getI cx dX6_splitNotch_120 flX6_20 (am_ke q1) ?_
    refine am_iload_n cx 2 dX6_splitNotch_123 rfl ?_
    obtain ⟨q4, hres⟩ := am_ck_some hres
    obtain ⟨q5, hres⟩ := am_ck_some hres
    refine am_iast cx dX6_splitNotch_124 (am_ke q4) q5  ?_
    refine am_aload_n cx 0 dX6_splitNotch_125 rfl ?_
    refine am_dup cx dX6_splitNotch_126 rfl ?_
    refine am_getI cx dX6_splitNotch_127 flX6_20 (am_ke q1) ?_
    refine am_iconst cx (v := (1 : Int32)) dX6_splitNotch_130 (by decide) ?_
    refine am_iadd cx dX6_splitNotch_131 ?_
    refine am_putI cx dX6_splitNotch_132 fpX6_20 (fun h => by cases h) (am_ke q1) ?_
    obtain ⟨-, rfl⟩ := am_fin hres
    exact am_vret cx dX6_splitNotch_135
  · have hres := am_ifn h hres
    refine am_aload_n cx 0 dX6_splitNotch_61 rfl ?_
    refine am_getR cx dX6_splitNotch_62 flX6_7 (am_ke q1) ?_
    refine am_iload_n cx 3 dX6_splitNotch_65 rfl ?_
    refine am_aload_n cx 0 dX6_splitNotch_66 rfl ?_
    refine am_getR cx dX6_splitNotch_67 flX6_7 (am_ke q1) ?_
    refine am_iload_n cx 3 dX6_splitNotch_70 rfl ?_
    refine am_iconst cx (v := (1 : Int32)) dX6_splitNotch_71 (by decide) ?_
    refine am_isub cx dX6_splitNotch_72 ?_
    obtain ⟨q6, hres⟩ := am_ck_some hres
    obtain ⟨q7, hres⟩ := am_ck_some hres
    refine am_iald cx dX6_splitNotch_73 (am_ke q6) q7 ?_
    obtain ⟨q8, hres⟩ := am_ck_some hres
    refine am_iast cx dX6_splitNotch_74 (am_ke q6) q8  ?_
    refine am_aload_n cx 0 dX6_splitNotch_75 rfl ?_
    refine am_getR cx dX6_splitNotch_76 flX6_13 (am_ke q1) ?_
    refine am_iload_n cx 3 dX6_splitNotch_79 rfl ?_
    refine am_aload_n cx 0 dX6_splitNotch_80 rfl ?_
    refine am_getR cx dX6_splitNotch_81 flX6_13 (am_ke q1) ?_
    refine am_iload_n cx 3 dX6_splitNotch_84 rfl ?_
    refine am_iconst cx (v := (1 : Int32)) dX6_splitNotch_85 (by decide) ?_
    refine am_isub cx dX6_splitNotch_86 ?_
    obtain ⟨q9, hres⟩ := am_ck_some hres
    obtain ⟨q10, hres⟩ := am_ck_some hres
    refine am_iald cx dX6_splitNotch_87 (am_ke q9) q10 ?_
    obtain ⟨q11, hres⟩ := am_ck_some hres
    refine am_iast cx dX6_splitNotch_88 (am_ke q9) q11  ?_
    refine am_iincw cx (lv' := [(0, .inr (.inr (.inl r0))), (1, .inl x1), (2, .inl x2), (3, .inl (x3 + (-1 : Int32)))]) (w := (-1 : Int32)) 3 dX6_splitNotch_89 (by decide) rfl (Nat.le_of_ble_eq_true rfl) rfl ?_
    refine am_goto cx (tgt := 53) dX6_splitNotch_92 (by decide) ?_
    exact hk53 _ _ _ _ _ hres
set_option maxRecDepth 20000 in
theorem sn6_splitNotch_b53 {l : Launch} {G : am_G} {M' : am_Mem} {N : Nat}  (cx : am_Ctx l rm6_splitNotch yX6_splitNotch cX6_splitNotch 4 none none M' 0 0 G)  (i : Nat) : ∀ (r0 : Nat) (x1 : Int32) (x2 : Int32) (x3 : Int32) (M : am_Mem), fn6_splitNotch_b53 N  i r0 x1 x2 x3 M = some ((), M') → G 53 [(0, .inr (.inr (.inl r0))), (1, .inl x1), (2, .inl x2), (3, .inl x3)] [] M 0 0 := by
  induction i with
  | zero => intro r0 x1 x2 x3 M hres; exact am_no hres
  | succ i ih => intro r0 x1 x2 x3 M hres; exact sn6_splitNotch_b53B cx ih hres
set_option maxRecDepth 20000 in
theorem sn6_splitNotch_b35 {l : Launch} {G : am_G} {M' : am_Mem} {N : Nat}  (cx : am_Ctx l rm6_splitNotch yX6_splitNotch cX6_splitNotch 4 none none M' 0 0 G)  {r0 : Nat} {x1 : Int32} {x2 : Int32} {M : am_Mem} (hres : fn6_splitNotch_b35 N  r0 x1 x2 M = some ((), M')) : G 35 [(0, .inr (.inr (.inl r0))), (1, .inl x1), (2, .inl x2)] [] M 0 0 := by
  unfold fn6_splitNotch_b35 at hres
  refine am_aload_n cx 0 dX6_splitNotch_35 rfl ?_
  obtain ⟨q1, hres⟩ := am_ck_some hres
  refine am_getI cx dX6_splitNotch_36 flX6_16 (am_ke q1) ?_
  refine am_aload_n cx 0 dX6_splitNotch_39 rfl ?_
  refine am_getR cx dX6_splitNotch_40 flX6_7 (am_ke q1) ?_
  obtain ⟨q2, hres⟩ := am_ck_some hres
  refine am_alen14 cx dX6_splitNotch_43 (am_ke q2) ?_
  refine am_icmp_lt cx (tgt := 48) dX6_splitNotch_44 (by decide) (fun h => ?_) (fun h => ?_)
  · have hres := am_ifp h hres
    refine am_aload_n cx 0 dX6_splitNotch_48 rfl ?_
    refine am_getI cx dX6_splitNotch_49 flX6_16 (am_ke q1) ?_
    refine am_istore_n cx (lv' := [(0, .inr (.inr (.inl r0))), (1, .inl x1), (2, .inl x2), (3, .inl (am_I M r0 3))]) dX6_splitNotch_52 (Nat.le_of_ble_eq_true rfl) rfl ?_
    exact sn6_splitNotch_b53 cx  N _ _ _ _ _ hres
  · have hres := am_ifn h hres
    obtain ⟨-, rfl⟩ := am_fin hres
    exact am_vret cx dX6_splitNotch_47
set_option maxRecDepth 20000 in
theorem sn6_splitNotch_b0 {l : Launch} {G : am_G} {M' : am_Mem} {N : Nat}  (cx : am_Ctx l rm6_splitNotch yX6_splitNotch cX6_splitNotch 4 none none M' 0 0 G)  {r0 : Nat} {x1 : Int32} {x2 : Int32} {M : am_Mem} (hres : fn6_splitNotch_b0 N  r0 x1 x2 M = some ((), M')) : G 0 [(0, .inr (.inr (.inl r0))), (1, .inl x1), (2, .inl x2)] [] M 0 0 := by
  unfold fn6_splitNotch_b0 at hres
  refine am_aload_n cx 0 dX6_splitNotch_0 rfl ?_
  obtain ⟨q1, hres⟩ := am_ck_some hres
  refine am_getI cx dX6_splitNotch_1 flX6_20 (am_ke q1) ?_
  refine am_if_le cx (tgt := 35) dX6_splitNotch_4 (by decide) (fun h => ?_) (fun h => ?_)
  · have hres := am_ifp h hres
    exact sn6_splitNotch_b35 cx  hres
  · have hres := am_ifn h hres
    refine am_aload_n cx 0 dX6_splitNotch_7 rfl ?_
    refine am_getR cx dX6_splitNotch_8 flX6_13 (am_ke q1) ?_
    refine am_aload_n cx 0 dX6_splitNotch_11 rfl ?_
    refine am_getI cx dX6_splitNotch_12 flX6_20 (am_ke q1) ?_
    refine am_iconst cx (v := (1 : Int32)) dX6_splitNotch_15 (by decide) ?_
    refine am_isub cx dX6_splitNotch_16 ?_
    obtain ⟨q2, hres⟩ := am_ck_some hres
    obtain ⟨q3, hres⟩ := am_ck_some hres
    refine am_iald cx dX6_splitNotch_17 (am_ke q2) q3 ?_
    refine am_iload_n cx 2 dX6_splitNotch_18 rfl ?_
    refine am_icmp_ne cx (tgt := 35) dX6_splitNotch_19 (by decide) (fun h => ?_) (fun h => ?_)
    · have hres := am_ifn h hres
      exact sn6_splitNotch_b35 cx  hres
    · have hres := am_ifp h hres
      refine am_aload_n cx 0 dX6_splitNotch_22 rfl ?_
      refine am_getR cx dX6_splitNotch_23 flX6_7 (am_ke q1) ?_
      refine am_aload_n cx 0 dX6_splitNotch_26 rfl ?_
      refine am_getI cx dX6_splitNotch_27 flX6_20 (am_ke q1) ?_
      refine am_iconst cx (v := (1 : Int32)) dX6_splitNotch_30 (by decide) ?_
      refine am_isub cx dX6_splitNotch_31 ?_
      refine am_iload_n cx 1 dX6_splitNotch_32 rfl ?_
      obtain ⟨q4, hres⟩ := am_ck_some hres
      obtain ⟨q5, hres⟩ := am_ck_some hres
      refine am_iast cx dX6_splitNotch_33 (am_ke q4) q5  ?_
      obtain ⟨-, rfl⟩ := am_fin hres
      exact am_vret cx dX6_splitNotch_34
set_option maxRecDepth 20000 in
theorem mt6_splitNotch {l : Launch} {M M' : am_Mem} {N : Nat} {r0 : Nat} {x1 : Int32} {x2 : Int32} (h : fn6_splitNotch N M r0 x1 x2 = some ((), M')) : am_Met l yX6_splitNotch cX6_splitNotch 4 none rm6_splitNotch 0 0 [.inr (.inr (.inl r0)), .inl x1, .inl x2] M none M' := am_mk (by decide) (Nat.le_of_ble_eq_true rfl) (fun G cx => (sn6_splitNotch_b0 cx h))
-- SquareCuts$Outline.mergePieces
def fn6_mergePieces_b42 (N : Nat) (k4 : Nat → Int32 → Int32 → am_Mem → Option (Unit × am_Mem)) (r0 : Nat) (x1 : Int32) (x2 : Int32) (M : am_Mem) : Option (Unit × am_Mem) :=
  am_ck (am_k M r0 6) (am_ck (am_k M (am_R M r0 0) 14) (am_ck (am_in x2 (am_L M (am_R M r0 0))) (am_ck (am_in x1 (am_L M (am_R M r0 0))) (k4 r0 x1 (x2 + (1 : Int32)) (am_wI M (am_R M r0 0) x1.toNatClampNeg (am_I M (am_R M r0 0) x2.toNatClampNeg))))))
def fn6_mergePieces_b4B (N : Nat) (k4 : Nat → Int32 → Int32 → am_Mem → Option (Unit × am_Mem)) (r0 : Nat) (x1 : Int32) (x2 : Int32) (M : am_Mem) : Option (Unit × am_Mem) :=
  am_ck (am_k M r0 6) (if (am_I M r0 3) ≤ x2 then some ((), (am_wI M r0 3 (x1 + (1 : Int32)))) else am_ck (am_k M (am_R M r0 1) 14) (am_ck (am_in x2 (am_L M (am_R M r0 1))) (am_ck (am_in x1 (am_L M (am_R M r0 1))) (if (am_I M (am_R M r0 1) x2.toNatClampNeg) = (am_I M (am_R M r0 1) x1.toNatClampNeg) then fn6_mergePieces_b42 N k4 r0 x1 x2 M else am_ck (am_in x2 (am_L M (am_R M r0 1))) (am_ck (am_in (x1 + (1 : Int32)) (am_L M (am_R M r0 1))) (fn6_mergePieces_b42 N k4 r0 (x1 + (1 : Int32)) x2 (am_wI M (am_R M r0 1) (x1 + (1 : Int32)).toNatClampNeg (am_I M (am_R M r0 1) x2.toNatClampNeg))))))))
def fn6_mergePieces_b4 (N : Nat)  : Nat → Nat → Int32 → Int32 → am_Mem → Option (Unit × am_Mem)
  | 0 => fun _ _ _ _ => none
  | i + 1 => fn6_mergePieces_b4B N (fn6_mergePieces_b4 N  i)
def fn6_mergePieces_b0 (N : Nat)  (r0 : Nat) (M : am_Mem) : Option (Unit × am_Mem) :=
  fn6_mergePieces_b4 N  N r0 (0 : Int32) (1 : Int32) M
def fn6_mergePieces (N : Nat) (M : am_Mem) (r0 : Nat) : Option (Unit × am_Mem) := fn6_mergePieces_b0 N r0 M
def rm6_mergePieces : Room := { frames := 0, cells := 0, slots := 0, locals := 0 }
set_option maxRecDepth 20000 in
theorem sn6_mergePieces_b42 {l : Launch} {G : am_G} {M' : am_Mem} {N : Nat} {k4 : Nat → Int32 → Int32 → am_Mem → Option (Unit × am_Mem)} (cx : am_Ctx l rm6_mergePieces yX6_mergePieces cX6_mergePieces 3 none none M' 0 0 G) (hk4 : ∀ (r0 : Nat) (x1 : Int32) (x2 : Int32) (M : am_Mem), k4 r0 x1 x2 M = some ((), M') → G 4 [(0, .inr (.inr (.inl r0))), (1, .inl x1), (2, .inl x2)] [] M 0 0) {r0 : Nat} {x1 : Int32} {x2 : Int32} {M : am_Mem} (hres : fn6_mergePieces_b42 N k4 r0 x1 x2 M = some ((), M')) : G 42 [(0, .inr (.inr (.inl r0))), (1, .inl x1), (2, .inl x2)] [] M 0 0 := by
  unfold fn6_mergePieces_b42 at hres
  refine am_aload_n cx 0 dX6_mergePieces_42 rfl ?_
  obtain ⟨q1, hres⟩ := am_ck_some hres
  refine am_getR cx dX6_mergePieces_43 flX6_7 (am_ke q1) ?_
  refine am_iload_n cx 1 dX6_mergePieces_46 rfl ?_
  refine am_aload_n cx 0 dX6_mergePieces_47 rfl ?_
  refine am_getR cx dX6_mergePieces_48 flX6_7 (am_ke q1) ?_
  refine am_iload_n cx 2 dX6_mergePieces_51 rfl ?_
  obtain ⟨q2, hres⟩ := am_ck_some hres
  obtain ⟨q3, hres⟩ := am_ck_some hres
  refine am_iald cx dX6_mergePieces_52 (am_ke q2) q3 ?_
  obtain ⟨q4, hres⟩ := am_ck_some hres
  refine am_iast cx dX6_mergePieces_53 (am_ke q2) q4  ?_
  refine am_iincw cx (lv' := [(0, .inr (.inr (.inl r0))), (1, .inl x1), (2, .inl (x2 + (1 : Int32)))]) (w := (1 : Int32)) 2 dX6_mergePieces_54 (by decide) rfl (Nat.le_of_ble_eq_true rfl) rfl ?_
  refine am_goto cx (tgt := 4) dX6_mergePieces_57 (by decide) ?_
  exact hk4 _ _ _ _ hres
set_option maxRecDepth 20000 in
theorem sn6_mergePieces_b4B {l : Launch} {G : am_G} {M' : am_Mem} {N : Nat} {k4 : Nat → Int32 → Int32 → am_Mem → Option (Unit × am_Mem)} (cx : am_Ctx l rm6_mergePieces yX6_mergePieces cX6_mergePieces 3 none none M' 0 0 G) (hk4 : ∀ (r0 : Nat) (x1 : Int32) (x2 : Int32) (M : am_Mem), k4 r0 x1 x2 M = some ((), M') → G 4 [(0, .inr (.inr (.inl r0))), (1, .inl x1), (2, .inl x2)] [] M 0 0) {r0 : Nat} {x1 : Int32} {x2 : Int32} {M : am_Mem} (hres : fn6_mergePieces_b4B N k4 r0 x1 x2 M = some ((), M')) : G 4 [(0, .inr (.inr (.inl r0))), (1, .inl x1), (2, .inl x2)] [] M 0 0 := by
  unfold fn6_mergePieces_b4B at hres
  refine am_iload_n cx 2 dX6_mergePieces_4 rfl ?_
  refine am_aload_n cx 0 dX6_mergePieces_5 rfl ?_
  obtain ⟨q1, hres⟩ := am_ck_some hres
  refine am_getI cx dX6_mergePieces_6 flX6_16 (am_ke q1) ?_
  refine am_icmp_ge cx (tgt := 60) dX6_mergePieces_9 (by decide) (fun h => ?_) (fun h => ?_)
  · have hres := am_ifp h hres
    refine am_aload_n cx 0 dX6_mergePieces_60 rfl ?_
    refine am_iload_n cx 1 dX6_mergePieces_61 rfl ?_
    refine am_iconst cx (v := (1 : Int32)) dX6_mergePieces_62 (by decide) ?_
    refine am_iadd cx dX6_mergePieces_63 ?_
    refine am_putI cx dX6_mergePieces_64 fpX6_16 (fun h => by cases h) (am_ke q1) ?_
    obtain ⟨-, rfl⟩ := am_fin hres
    exact am_vret cx dX6_mergePieces_67
  · have hres := am_ifn h hres
    refine am_aload_n cx 0 dX6_mergePieces_12 rfl ?_
    refine am_getR cx dX6_mergePieces_13 flX6_13 (am_ke q1) ?_
    refine am_iload_n cx 2 dX6_mergePieces_16 rfl ?_
    obtain ⟨q2, hres⟩ := am_ck_some hres
    obtain ⟨q3, hres⟩ := am_ck_some hres
    refine am_iald cx dX6_mergePieces_17 (am_ke q2) q3 ?_
    refine am_aload_n cx 0 dX6_mergePieces_18 rfl ?_
    refine am_getR cx dX6_mergePieces_19 flX6_13 (am_ke q1) ?_
    refine am_iload_n cx 1 dX6_mergePieces_22 rfl ?_
    obtain ⟨q4, hres⟩ := am_ck_some hres
    refine am_iald cx dX6_mergePieces_23 (am_ke q2) q4 ?_
    refine am_icmp_eq cx (tgt := 42) dX6_mergePieces_24 (by decide) (fun h => ?_) (fun h => ?_)
    · have hres := am_ifp h hres
      exact sn6_mergePieces_b42 cx hk4 hres
    · have hres := am_ifn h hres
      refine am_iincw cx (lv' := [(0, .inr (.inr (.inl r0))), (1, .inl (x1 + (1 : Int32))), (2, .inl x2)]) (w := (1 : Int32)) 1 dX6_mergePieces_27 (by decide) rfl (Nat.le_of_ble_eq_true rfl) rfl ?_
      refine am_aload_n cx 0 dX6_mergePieces_30 rfl ?_
      refine am_getR cx dX6_mergePieces_31 flX6_13 (am_ke q1) ?_
      refine am_iload_n cx 1 dX6_mergePieces_34 rfl ?_
      refine am_aload_n cx 0 dX6_mergePieces_35 rfl ?_
      refine am_getR cx dX6_mergePieces_36 flX6_13 (am_ke q1) ?_
      refine am_iload_n cx 2 dX6_mergePieces_39 rfl ?_
      obtain ⟨q5, hres⟩ := am_ck_some hres
      refine am_iald cx dX6_mergePieces_40 (am_ke q2) q5 ?_
      obtain ⟨q6, hres⟩ := am_ck_some hres
      refine am_iast cx dX6_mergePieces_41 (am_ke q2) q6  ?_
      exact sn6_mergePieces_b42 cx hk4 hres
set_option maxRecDepth 20000 in
theorem sn6_mergePieces_b4 {l : Launch} {G : am_G} {M' : am_Mem} {N : Nat}  (cx : am_Ctx l rm6_mergePieces yX6_mergePieces cX6_mergePieces 3 none none M' 0 0 G)  (i : Nat) : ∀ (r0 : Nat) (x1 : Int32) (x2 : Int32) (M : am_Mem), fn6_mergePieces_b4 N  i r0 x1 x2 M = some ((), M') → G 4 [(0, .inr (.inr (.inl r0))), (1, .inl x1), (2, .inl x2)] [] M 0 0 := by
  induction i with
  | zero => intro r0 x1 x2 M hres; exact am_no hres
  | succ i ih => intro r0 x1 x2 M hres; exact sn6_mergePieces_b4B cx ih hres
set_option maxRecDepth 20000 in
theorem sn6_mergePieces_b0 {l : Launch} {G : am_G} {M' : am_Mem} {N : Nat}  (cx : am_Ctx l rm6_mergePieces yX6_mergePieces cX6_mergePieces 3 none none M' 0 0 G)  {r0 : Nat} {M : am_Mem} (hres : fn6_mergePieces_b0 N  r0 M = some ((), M')) : G 0 [(0, .inr (.inr (.inl r0)))] [] M 0 0 := by
  unfold fn6_mergePieces_b0 at hres
  refine am_iconst cx (v := (0 : Int32)) dX6_mergePieces_0 (by decide) ?_
  refine am_istore_n cx (lv' := [(0, .inr (.inr (.inl r0))), (1, .inl (0 : Int32))]) dX6_mergePieces_1 (Nat.le_of_ble_eq_true rfl) rfl ?_
  refine am_iconst cx (v := (1 : Int32)) dX6_mergePieces_2 (by decide) ?_
  refine am_istore_n cx (lv' := [(0, .inr (.inr (.inl r0))), (1, .inl (0 : Int32)), (2, .inl (1 : Int32))]) dX6_mergePieces_3 (Nat.le_of_ble_eq_true rfl) rfl ?_
  exact sn6_mergePieces_b4 cx  N _ _ _ _ hres
set_option maxRecDepth 20000 in
theorem mt6_mergePieces {l : Launch} {M M' : am_Mem} {N : Nat} {r0 : Nat} (h : fn6_mergePieces N M r0 = some ((), M')) : am_Met l yX6_mergePieces cX6_mergePieces 3 none rm6_mergePieces 0 0 [.inr (.inr (.inl r0))] M none M' := am_mk (by decide) (Nat.le_of_ble_eq_true rfl) (fun G cx => (sn6_mergePieces_b0 cx h))
-- SquareCuts$Outline.findNotch
def fn6_findNotch_b38 (N : Nat) (k7 : Nat → Int32 → am_Mem → Option (Unit × am_Mem)) (r0 : Nat) (x1 : Int32) (M : am_Mem) : Option (Unit × am_Mem) :=
  k7 r0 (x1 + (1 : Int32)) M
def fn6_findNotch_b7B (N : Nat) (k7 : Nat → Int32 → am_Mem → Option (Unit × am_Mem)) (r0 : Nat) (x1 : Int32) (M : am_Mem) : Option (Unit × am_Mem) :=
  am_ck (am_k M r0 6) (if (am_I M r0 3) ≤ x1 then some ((), M) else am_ck (am_k M (am_R M r0 1) 14) (am_ck (am_in x1 (am_L M (am_R M r0 1))) (am_ck (am_in (am_I M r0 2) (am_L M (am_R M r0 1))) (if (am_I M (am_R M r0 1) (am_I M r0 2).toNatClampNeg) ≤ (am_I M (am_R M r0 1) x1.toNatClampNeg) then fn6_findNotch_b38 N k7 r0 x1 M else fn6_findNotch_b38 N k7 r0 x1 (am_wI M r0 2 x1)))))
def fn6_findNotch_b7 (N : Nat)  : Nat → Nat → Int32 → am_Mem → Option (Unit × am_Mem)
  | 0 => fun _ _ _ => none
  | i + 1 => fn6_findNotch_b7B N (fn6_findNotch_b7 N  i)
def fn6_findNotch_b0 (N : Nat)  (r0 : Nat) (M : am_Mem) : Option (Unit × am_Mem) :=
  am_ck (am_k M r0 6) (fn6_findNotch_b7 N  N r0 (1 : Int32) (am_wI M r0 2 (0 : Int32)))
def fn6_findNotch (N : Nat) (M : am_Mem) (r0 : Nat) : Option (Unit × am_Mem) := fn6_findNotch_b0 N r0 M
def rm6_findNotch : Room := { frames := 0, cells := 0, slots := 0, locals := 0 }
set_option maxRecDepth 20000 in
theorem sn6_findNotch_b38 {l : Launch} {G : am_G} {M' : am_Mem} {N : Nat} {k7 : Nat → Int32 → am_Mem → Option (Unit × am_Mem)} (cx : am_Ctx l rm6_findNotch yX6_findNotch cX6_findNotch 2 none none M' 0 0 G) (hk7 : ∀ (r0 : Nat) (x1 : Int32) (M : am_Mem), k7 r0 x1 M = some ((), M') → G 7 [(0, .inr (.inr (.inl r0))), (1, .inl x1)] [] M 0 0) {r0 : Nat} {x1 : Int32} {M : am_Mem} (hres : fn6_findNotch_b38 N k7 r0 x1 M = some ((), M')) : G 38 [(0, .inr (.inr (.inl r0))), (1, .inl x1)] [] M 0 0 := by
  unfold fn6_findNotch_b38 at hres
  refine am_iincw cx (lv' := [(0, .inr (.inr (.inl r0))), (1, .inl (x1 + (1 : Int32)))]) (w := (1 : Int32)) 1 dX6_findNotch_38 (by decide) rfl (Nat.le_of_ble_eq_true rfl) rfl ?_
  refine am_goto cx (tgt := 7) dX6_findNotch_41 (by decide) ?_
  exact hk7 _ _ _ hres
set_option maxRecDepth 20000 in
theorem sn6_findNotch_b7B {l : Launch} {G : am_G} {M' : am_Mem} {N : Nat} {k7 : Nat → Int32 → am_Mem → Option (Unit × am_Mem)} (cx : am_Ctx l rm6_findNotch yX6_findNotch cX6_findNotch 2 none none M' 0 0 G) (hk7 : ∀ (r0 : Nat) (x1 : Int32) (M : am_Mem), k7 r0 x1 M = some ((), M') → G 7 [(0, .inr (.inr (.inl r0))), (1, .inl x1)] [] M 0 0) {r0 : Nat} {x1 : Int32} {M : am_Mem} (hres : fn6_findNotch_b7B N k7 r0 x1 M = some ((), M')) : G 7 [(0, .inr (.inr (.inl r0))), (1, .inl x1)] [] M 0 0 := by
  unfold fn6_findNotch_b7B at hres
  refine am_iload_n cx 1 dX6_findNotch_7 rfl ?_
  refine am_aload_n cx 0 dX6_findNotch_8 rfl ?_
  obtain ⟨q1, hres⟩ := am_ck_some hres
  refine am_getI cx dX6_findNotch_9 flX6_16 (am_ke q1) ?_
  refine am_icmp_ge cx (tgt := 44) dX6_findNotch_12 (by decide) (fun h => ?_) (fun h => ?_)
  · have hres := am_ifp h hres
    obtain ⟨-, rfl⟩ := am_fin hres
    exact am_vret cx dX6_findNotch_44
  · have hres := am_ifn h hres
    refine am_aload_n cx 0 dX6_findNotch_15 rfl ?_
    refine am_getR cx dX6_findNotch_16 flX6_13 (am_ke q1) ?_
    refine am_iload_n cx 1 dX6_findNotch_19 rfl ?_
    obtain ⟨q2, hres⟩ := am_ck_some hres
    obtain ⟨q3, hres⟩ := am_ck_some hres
    refine am_iald cx dX6_findNotch_20 (am_ke q2) q3 ?_
    refine am_aload_n cx 0 dX6_findNotch_21 rfl ?_
    refine am_getR cx dX6_findNotch_22 flX6_13 (am_ke q1) ?_
    refine am_aload_n cx 0 dX6_findNotch_25 rfl ?_
    refine am_getI cx dX6_findNotch_26 flX6_20 (am_ke q1) ?_
    obtain ⟨q4, hres⟩ := am_ck_some hres
    refine am_iald cx dX6_findNotch_29 (am_ke q2) q4 ?_
    refine am_icmp_ge cx (tgt := 38) dX6_findNotch_30 (by decide) (fun h => ?_) (fun h => ?_)
    · have hres := am_ifp h hres
      exact sn6_findNotch_b38 cx hk7 hres
    · have hres := am_ifn h hres
      refine am_aload_n cx 0 dX6_findNotch_33 rfl ?_
      refine am_iload_n cx 1 dX6_findNotch_34 rfl ?_
      refine am_putI cx dX6_findNotch_35 fpX6_20 (fun h => by cases h) (am_ke q1) ?_
      exact sn6_findNotch_b38 cx hk7 hres
set_option maxRecDepth 20000 in
theorem sn6_findNotch_b7 {l : Launch} {G : am_G} {M' : am_Mem} {N : Nat}  (cx : am_Ctx l rm6_findNotch yX6_findNotch cX6_findNotch 2 none none M' 0 0 G)  (i : Nat) : ∀ (r0 : Nat) (x1 : Int32) (M : am_Mem), fn6_findNotch_b7 N  i r0 x1 M = some ((), M') → G 7 [(0, .inr (.inr (.inl r0))), (1, .inl x1)] [] M 0 0 := by
  induction i with
  | zero => intro r0 x1 M hres; exact am_no hres
  | succ i ih => intro r0 x1 M hres; exact sn6_findNotch_b7B cx ih hres
set_option maxRecDepth 20000 in
theorem sn6_findNotch_b0 {l : Launch} {G : am_G} {M' : am_Mem} {N : Nat}  (cx : am_Ctx l rm6_findNotch yX6_findNotch cX6_findNotch 2 none none M' 0 0 G)  {r0 : Nat} {M : am_Mem} (hres : fn6_findNotch_b0 N  r0 M = some ((), M')) : G 0 [(0, .inr (.inr (.inl r0)))] [] M 0 0 := by
  unfold fn6_findNotch_b0 at hres
  refine am_aload_n cx 0 dX6_findNotch_0 rfl ?_
  refine am_iconst cx (v := (0 : Int32)) dX6_findNotch_1 (by decide) ?_
  obtain ⟨q1, hres⟩ := am_ck_some hres
  refine am_putI cx dX6_findNotch_2 fpX6_20 (fun h => by cases h) (am_ke q1) ?_
  refine am_iconst cx (v := (1 : Int32)) dX6_findNotch_5 (by decide) ?_
  refine am_istore_n cx (lv' := [(0, .inr (.inr (.inl r0))), (1, .inl (1 : Int32))]) dX6_findNotch_6 (Nat.le_of_ble_eq_true rfl) rfl ?_
  exact sn6_findNotch_b7 cx  N _ _ _ hres
set_option maxRecDepth 20000 in
theorem mt6_findNotch {l : Launch} {M M' : am_Mem} {N : Nat} {r0 : Nat} (h : fn6_findNotch N M r0 = some ((), M')) : am_Met l yX6_findNotch cX6_findNotch 2 none rm6_findNotch 0 0 [.inr (.inr (.inl r0))] M none M' := am_mk (by decide) (Nat.le_of_ble_eq_true rfl) (fun G cx => (sn6_findNotch_b0 cx h))
-- SquareCuts$Page.<init>
def fn7_init_b13   (M : am_Mem) : Option (Unit × am_Mem) :=
  some ((), M)
def fn7_init_b0  (r0 : Nat) (M : am_Mem) : Option (Unit × am_Mem) :=
  am_ck (am_k M r0 7) (am_ck (am_k (am_new M 13 (480 : Int32).toNatClampNeg) r0 7) (fn7_init_b13   (am_wR (am_new M 13 (480 : Int32).toNatClampNeg) r0 0 (am_n M + 1))))
def fn7_init (M : am_Mem) (r0 : Nat) : Option (Unit × am_Mem) := fn7_init_b0  r0 M
def rm7_init : Room := { frames := 1, cells := 1, slots := 480, locals := 20 }
set_option maxRecDepth 20000 in
theorem sn7_init_b13 {l : Launch} {G : am_G} {M' : am_Mem}  (cx : am_Ctx l rm7_init yX7_init cX7_init 1 none none M' 1 480 G)   {M : am_Mem} (hres : fn7_init_b13   M = some ((), M')) : G 13 [] [] M 1 480 := by
  unfold fn7_init_b13 at hres
  obtain ⟨-, rfl⟩ := am_fin hres
  exact am_vret cx dX7_init_13
set_option maxRecDepth 20000 in
theorem sn7_init_b0 {l : Launch} {G : am_G} {M' : am_Mem}  (cx : am_Ctx l rm7_init yX7_init cX7_init 1 none none M' 1 480 G)  {r0 : Nat} {M : am_Mem} (hres : fn7_init_b0  r0 M = some ((), M')) : G 0 [(0, .inr (.inr (.inl r0)))] [] M 0 0 := by
  unfold fn7_init_b0 at hres
  refine am_aload_n cx 0 dX7_init_0 rfl ?_
  obtain ⟨q1, hres⟩ := am_ck_some hres
  refine am_objInit cx dX7_init_1 aw_1_239 aw_1_31 aw_1_32 (by rw [show am_K _ _ = 7 from (am_ke q1)]; decide) (Nat.le_of_ble_eq_true rfl) (Nat.le_of_ble_eq_true rfl) ?_
  refine am_aload_n cx 0 dX7_init_4 rfl ?_
  refine am_sipush cx (v := (480 : Int32)) dX7_init_5 (by decide) ?_
  refine am_newB cx 480 dX7_init_8 aw_1_87 (by decide) (Nat.le_of_ble_eq_true rfl) (Nat.le_of_ble_eq_true rfl) (Nat.le_of_ble_eq_true rfl) ?_
  obtain ⟨q2, hres⟩ := am_ck_some hres
  refine am_putR cx dX7_init_10 fpX7_11 (fun _ => rfl) (Or.inr ⟨_, rfl⟩) (am_ke q2) ?_
  refine am_sub cx [] rfl ?_
  exact sn7_init_b13 cx  hres
set_option maxRecDepth 20000 in
theorem mt7_init {l : Launch} {M M' : am_Mem} {r0 : Nat} (h : fn7_init M r0 = some ((), M')) : am_Met l yX7_init cX7_init 1 none rm7_init 1 480 [.inr (.inr (.inl r0))] M none M' := am_mk (by decide) (Nat.le_of_ble_eq_true rfl) (fun G cx => (sn7_init_b0 cx h))
-- SquareCuts$Page.put
def fn7_put_b31   (M : am_Mem) : Option (Unit × am_Mem) :=
  some ((), M)
def fn7_put_b0  (r0 : Nat) (x1 : Int32) (M : am_Mem) : Option (Unit × am_Mem) :=
  am_ck (am_k M r0 7) (if (480 : Int32) ≤ (am_I M r0 1) then fn7_put_b31   M else am_ck (am_k M (am_R M r0 0) 13) (am_ck (am_in (am_I M r0 1) (am_L M (am_R M r0 0))) (fn7_put_b31   (am_wI (am_wI M (am_R M r0 0) (am_I M r0 1).toNatClampNeg (x1.toInt8.toInt32.toInt8.toInt32)) r0 1 ((am_I (am_wI M (am_R M r0 0) (am_I M r0 1).toNatClampNeg (x1.toInt8.toInt32.toInt8.toInt32)) r0 1) + (1 : Int32))))))
def fn7_put (M : am_Mem) (r0 : Nat) (x1 : Int32) : Option (Unit × am_Mem) := fn7_put_b0  r0 x1 M
def rm7_put : Room := { frames := 0, cells := 0, slots := 0, locals := 0 }
set_option maxRecDepth 20000 in
theorem sn7_put_b31 {l : Launch} {G : am_G} {M' : am_Mem}  (cx : am_Ctx l rm7_put yX7_put cX7_put 2 none none M' 0 0 G)   {M : am_Mem} (hres : fn7_put_b31   M = some ((), M')) : G 31 [] [] M 0 0 := by
  unfold fn7_put_b31 at hres
  obtain ⟨-, rfl⟩ := am_fin hres
  exact am_vret cx dX7_put_31
set_option maxRecDepth 20000 in
theorem sn7_put_b0 {l : Launch} {G : am_G} {M' : am_Mem}  (cx : am_Ctx l rm7_put yX7_put cX7_put 2 none none M' 0 0 G)  {r0 : Nat} {x1 : Int32} {M : am_Mem} (hres : fn7_put_b0  r0 x1 M = some ((), M')) : G 0 [(0, .inr (.inr (.inl r0))), (1, .inl x1)] [] M 0 0 := by
  unfold fn7_put_b0 at hres
  refine am_aload_n cx 0 dX7_put_0 rfl ?_
  obtain ⟨q1, hres⟩ := am_ck_some hres
  refine am_getI cx dX7_put_1 flX7_15 (am_ke q1) ?_
  refine am_sipush cx (v := (480 : Int32)) dX7_put_4 (by decide) ?_
  refine am_icmp_ge cx (tgt := 31) dX7_put_7 (by decide) (fun h => ?_) (fun h => ?_)
  · have hres := am_ifp h hres
    refine am_sub cx [] rfl ?_
    exact sn7_put_b31 cx  hres
  · have hres := am_ifn h hres
    refine am_aload_n cx 0 dX7_put_10 rfl ?_
    refine am_getR cx dX7_put_11 flX7_11 (am_ke q1) ?_
    refine am_aload_n cx 0 dX7_put_14 rfl ?_
    refine am_getI cx dX7_put_15 flX7_15 (am_ke q1) ?_
    refine am_iload_n cx 1 dX7_put_18 rfl ?_
    refine am_i2b cx dX7_put_19 ?_
    obtain ⟨q2, hres⟩ := am_ck_some hres
    obtain ⟨q3, hres⟩ := am_ck_some hres
    refine am_bast cx dX7_put_20 (am_ke q2) q3  ?_
    refine am_aload_n cx 0 dX7_put_21 rfl ?_
    refine am_dup cx dX7_put_22 rfl ?_
    refine am_getI cx dX7_put_23 flX7_15 (am_ke q1) ?_
    refine am_iconst cx (v := (1 : Int32)) dX7_put_26 (by decide) ?_
    refine am_iadd cx dX7_put_27 ?_
    refine am_putI cx dX7_put_28 fpX7_15 (fun h => by cases h) (am_ke q1) ?_
    refine am_sub cx [] rfl ?_
    exact sn7_put_b31 cx  hres
set_option maxRecDepth 20000 in
theorem mt7_put {l : Launch} {M M' : am_Mem} {r0 : Nat} {x1 : Int32} (h : fn7_put M r0 x1 = some ((), M')) : am_Met l yX7_put cX7_put 2 none rm7_put 0 0 [.inr (.inr (.inl r0)), .inl x1] M none M' := am_mk (by decide) (Nat.le_of_ble_eq_true rfl) (fun G cx => (sn7_put_b0 cx h))
-- SquareCuts$Reader.<init>
def fn8_init_b61   (M : am_Mem) : Option (Unit × am_Mem) :=
  some ((), M)
def fn8_init_b49  (r0 : Nat) (M : am_Mem) : Option (Unit × am_Mem) :=
  am_ck (am_k (am_mna M 19 14 6 29) r0 8) (fn8_init_b61   (am_wR (am_mna M 19 14 6 29) r0 12 (am_n M + 1)))
def fn8_init_b37  (r0 : Nat) (M : am_Mem) : Option (Unit × am_Mem) :=
  am_ck (am_k (am_mna M 19 14 6 29) r0 8) (fn8_init_b49  r0 (am_wR (am_mna M 19 14 6 29) r0 11 (am_n M + 1)))
def fn8_init_b29  (r0 : Nat) (M : am_Mem) : Option (Unit × am_Mem) :=
  am_ck (am_k (am_new M 14 (6 : Int32).toNatClampNeg) r0 8) (fn8_init_b37  r0 (am_wR (am_new M 14 (6 : Int32).toNatClampNeg) r0 10 (am_n M + 1)))
def fn8_init_b21  (r0 : Nat) (M : am_Mem) : Option (Unit × am_Mem) :=
  am_ck (am_k (am_new M 16 (6 : Int32).toNatClampNeg) r0 8) (fn8_init_b29  r0 (am_wR (am_new M 16 (6 : Int32).toNatClampNeg) r0 9 (am_n M + 1)))
def fn8_init_b13  (r0 : Nat) (M : am_Mem) : Option (Unit × am_Mem) :=
  am_ck (am_k (am_new M 15 (6 : Int32).toNatClampNeg) r0 8) (fn8_init_b21  r0 (am_wR (am_new M 15 (6 : Int32).toNatClampNeg) r0 6 (am_n M + 1)))
def fn8_init_b0  (r0 : Nat) (M : am_Mem) : Option (Unit × am_Mem) :=
  am_ck (am_k M r0 8) (am_ck (am_k (am_new M 13 (600 : Int32).toNatClampNeg) r0 8) (fn8_init_b13  r0 (am_wR (am_new M 13 (600 : Int32).toNatClampNeg) r0 0 (am_n M + 1))))
def fn8_init (M : am_Mem) (r0 : Nat) : Option (Unit × am_Mem) := fn8_init_b0  r0 M
def rm8_init : Room := { frames := 1, cells := 18, slots := 978, locals := 20 }
set_option maxRecDepth 20000 in
theorem sn8_init_b61 {l : Launch} {G : am_G} {M' : am_Mem}  (cx : am_Ctx l rm8_init yX8_init cX8_init 1 none none M' 18 978 G)   {M : am_Mem} (hres : fn8_init_b61   M = some ((), M')) : G 61 [] [] M 18 978 := by
  unfold fn8_init_b61 at hres
  obtain ⟨-, rfl⟩ := am_fin hres
  exact am_vret cx dX8_init_61
set_option maxRecDepth 20000 in
theorem sn8_init_b49 {l : Launch} {G : am_G} {M' : am_Mem}  (cx : am_Ctx l rm8_init yX8_init cX8_init 1 none none M' 18 978 G)  {r0 : Nat} {M : am_Mem} (hres : fn8_init_b49  r0 M = some ((), M')) : G 49 [(0, .inr (.inr (.inl r0)))] [] M 11 798 := by
  unfold fn8_init_b49 at hres
  refine am_aload_n cx 0 dX8_init_49 rfl ?_
  refine am_bipush cx (v := (6 : Int32)) dX8_init_50 (by decide) ?_
  refine am_bipush cx (v := (29 : Int32)) dX8_init_52 (by decide) ?_
  refine am_mnaI cx 6 29 (by decide) (by decide) (by decide) (by decide) (by decide) dX8_init_54 aw_1_39 an_1_40 aw_1_90 (Nat.le_of_ble_eq_true rfl) (Nat.le_of_ble_eq_true rfl) ?_
  obtain ⟨q1, hres⟩ := am_ck_some hres
  refine am_putR cx dX8_init_58 fpX8_32 (fun _ => rfl) (Or.inr ⟨_, rfl⟩) (am_ke q1) ?_
  refine am_sub cx [] rfl ?_
  exact sn8_init_b61 cx  hres
set_option maxRecDepth 20000 in
theorem sn8_init_b37 {l : Launch} {G : am_G} {M' : am_Mem}  (cx : am_Ctx l rm8_init yX8_init cX8_init 1 none none M' 18 978 G)  {r0 : Nat} {M : am_Mem} (hres : fn8_init_b37  r0 M = some ((), M')) : G 37 [(0, .inr (.inr (.inl r0)))] [] M 4 618 := by
  unfold fn8_init_b37 at hres
  refine am_aload_n cx 0 dX8_init_37 rfl ?_
  refine am_bipush cx (v := (6 : Int32)) dX8_init_38 (by decide) ?_
  refine am_bipush cx (v := (29 : Int32)) dX8_init_40 (by decide) ?_
  refine am_mnaI cx 6 29 (by decide) (by decide) (by decide) (by decide) (by decide) dX8_init_42 aw_1_39 an_1_40 aw_1_90 (Nat.le_of_ble_eq_true rfl) (Nat.le_of_ble_eq_true rfl) ?_
  obtain ⟨q1, hres⟩ := am_ck_some hres
  refine am_putR cx dX8_init_46 fpX8_29 (fun _ => rfl) (Or.inr ⟨_, rfl⟩) (am_ke q1) ?_
  exact sn8_init_b49 cx  hres
set_option maxRecDepth 20000 in
theorem sn8_init_b29 {l : Launch} {G : am_G} {M' : am_Mem}  (cx : am_Ctx l rm8_init yX8_init cX8_init 1 none none M' 18 978 G)  {r0 : Nat} {M : am_Mem} (hres : fn8_init_b29  r0 M = some ((), M')) : G 29 [(0, .inr (.inr (.inl r0)))] [] M 3 612 := by
  unfold fn8_init_b29 at hres
  refine am_aload_n cx 0 dX8_init_29 rfl ?_
  refine am_bipush cx (v := (6 : Int32)) dX8_init_30 (by decide) ?_
  refine am_newI cx 6 dX8_init_32 aw_1_90 (by decide) (Nat.le_of_ble_eq_true rfl) (Nat.le_of_ble_eq_true rfl) (Nat.le_of_ble_eq_true rfl) ?_
  obtain ⟨q1, hres⟩ := am_ck_some hres
  refine am_putR cx dX8_init_34 fpX8_23 (fun _ => rfl) (Or.inr ⟨_, rfl⟩) (am_ke q1) ?_
  exact sn8_init_b37 cx  hres
set_option maxRecDepth 20000 in
theorem sn8_init_b21 {l : Launch} {G : am_G} {M' : am_Mem}  (cx : am_Ctx l rm8_init yX8_init cX8_init 1 none none M' 18 978 G)  {r0 : Nat} {M : am_Mem} (hres : fn8_init_b21  r0 M = some ((), M')) : G 21 [(0, .inr (.inr (.inl r0)))] [] M 2 606 := by
  unfold fn8_init_b21 at hres
  refine am_aload_n cx 0 dX8_init_21 rfl ?_
  refine am_bipush cx (v := (6 : Int32)) dX8_init_22 (by decide) ?_
  refine am_newZ cx 6 dX8_init_24 aw_1_89 (by decide) (Nat.le_of_ble_eq_true rfl) (Nat.le_of_ble_eq_true rfl) (Nat.le_of_ble_eq_true rfl) ?_
  obtain ⟨q1, hres⟩ := am_ck_some hres
  refine am_putR cx dX8_init_26 fpX8_19 (fun _ => rfl) (Or.inr ⟨_, rfl⟩) (am_ke q1) ?_
  exact sn8_init_b29 cx  hres
set_option maxRecDepth 20000 in
theorem sn8_init_b13 {l : Launch} {G : am_G} {M' : am_Mem}  (cx : am_Ctx l rm8_init yX8_init cX8_init 1 none none M' 18 978 G)  {r0 : Nat} {M : am_Mem} (hres : fn8_init_b13  r0 M = some ((), M')) : G 13 [(0, .inr (.inr (.inl r0)))] [] M 1 600 := by
  unfold fn8_init_b13 at hres
  refine am_aload_n cx 0 dX8_init_13 rfl ?_
  refine am_bipush cx (v := (6 : Int32)) dX8_init_14 (by decide) ?_
  refine am_newJ cx 6 dX8_init_16 aw_1_88 (by decide) (Nat.le_of_ble_eq_true rfl) (Nat.le_of_ble_eq_true rfl) (Nat.le_of_ble_eq_true rfl) ?_
  obtain ⟨q1, hres⟩ := am_ck_some hres
  refine am_putR cx dX8_init_18 fpX8_15 (fun _ => rfl) (Or.inr ⟨_, rfl⟩) (am_ke q1) ?_
  exact sn8_init_b21 cx  hres
set_option maxRecDepth 20000 in
theorem sn8_init_b0 {l : Launch} {G : am_G} {M' : am_Mem}  (cx : am_Ctx l rm8_init yX8_init cX8_init 1 none none M' 18 978 G)  {r0 : Nat} {M : am_Mem} (hres : fn8_init_b0  r0 M = some ((), M')) : G 0 [(0, .inr (.inr (.inl r0)))] [] M 0 0 := by
  unfold fn8_init_b0 at hres
  refine am_aload_n cx 0 dX8_init_0 rfl ?_
  obtain ⟨q1, hres⟩ := am_ck_some hres
  refine am_objInit cx dX8_init_1 aw_1_38 aw_1_31 aw_1_32 (by rw [show am_K _ _ = 8 from (am_ke q1)]; decide) (Nat.le_of_ble_eq_true rfl) (Nat.le_of_ble_eq_true rfl) ?_
  refine am_aload_n cx 0 dX8_init_4 rfl ?_
  refine am_sipush cx (v := (600 : Int32)) dX8_init_5 (by decide) ?_
  refine am_newB cx 600 dX8_init_8 aw_1_87 (by decide) (Nat.le_of_ble_eq_true rfl) (Nat.le_of_ble_eq_true rfl) (Nat.le_of_ble_eq_true rfl) ?_
  obtain ⟨q2, hres⟩ := am_ck_some hres
  refine am_putR cx dX8_init_10 fpX8_9 (fun _ => rfl) (Or.inr ⟨_, rfl⟩) (am_ke q2) ?_
  exact sn8_init_b13 cx  hres
set_option maxRecDepth 20000 in
theorem mt8_init {l : Launch} {M M' : am_Mem} {r0 : Nat} (h : fn8_init M r0 = some ((), M')) : am_Met l yX8_init cX8_init 1 none rm8_init 18 978 [.inr (.inr (.inl r0))] M none M' := am_mk (by decide) (Nat.le_of_ble_eq_true rfl) (fun G cx => (sn8_init_b0 cx h))
-- SquareCuts$Reader.takeFourBytes
def fn8_takeFourBytes_b46 (N : Nat)   (M : am_Mem) : Option (Unit × am_Mem) :=
  some ((), M)
def fn8_takeFourBytes_b3B (N : Nat) (k3 : Nat → Int32 → Int32 → am_Mem → Option (Unit × am_Mem)) (r0 : Nat) (x1 : Int32) (x2 : Int32) (M : am_Mem) : Option (Unit × am_Mem) :=
  if x2 < 0 then fn8_takeFourBytes_b46 N   M else am_ck (am_k M r0 8) (if (600 : Int32) ≤ (am_I M r0 7) then fn8_takeFourBytes_b46 N   M else am_ck (am_k M (am_R M r0 0) 13) (am_ck (am_in (am_I M r0 7) (am_L M (am_R M r0 0))) (k3 r0 x1 (x2 + (-8 : Int32)) (am_wI (am_wI M (am_R M r0 0) (am_I M r0 7).toNatClampNeg (((x1 >>> (x2 &&& 31)).toInt8.toInt32).toInt8.toInt32)) r0 7 ((am_I (am_wI M (am_R M r0 0) (am_I M r0 7).toNatClampNeg (((x1 >>> (x2 &&& 31)).toInt8.toInt32).toInt8.toInt32)) r0 7) + (1 : Int32))))))
def fn8_takeFourBytes_b3 (N : Nat)  : Nat → Nat → Int32 → Int32 → am_Mem → Option (Unit × am_Mem)
  | 0 => fun _ _ _ _ => none
  | i + 1 => fn8_takeFourBytes_b3B N (fn8_takeFourBytes_b3 N  i)
def fn8_takeFourBytes_b0 (N : Nat)  (r0 : Nat) (x1 : Int32) (M : am_Mem) : Option (Unit × am_Mem) :=
  fn8_takeFourBytes_b3 N  N r0 x1 (24 : Int32) M
def fn8_takeFourBytes (N : Nat) (M : am_Mem) (r0 : Nat) (x1 : Int32) : Option (Unit × am_Mem) := fn8_takeFourBytes_b0 N r0 x1 M
def rm8_takeFourBytes : Room := { frames := 0, cells := 0, slots := 0, locals := 0 }
set_option maxRecDepth 20000 in
theorem sn8_takeFourBytes_b46 {l : Launch} {G : am_G} {M' : am_Mem} {N : Nat}  (cx : am_Ctx l rm8_takeFourBytes yX8_takeFourBytes cX8_takeFourBytes 3 none none M' 0 0 G)   {M : am_Mem} (hres : fn8_takeFourBytes_b46 N   M = some ((), M')) : G 46 [] [] M 0 0 := by
  unfold fn8_takeFourBytes_b46 at hres
  obtain ⟨-, rfl⟩ := am_fin hres
  exact am_vret cx dX8_takeFourBytes_46
set_option maxRecDepth 20000 in
theorem sn8_takeFourBytes_b3B {l : Launch} {G : am_G} {M' : am_Mem} {N : Nat} {k3 : Nat → Int32 → Int32 → am_Mem → Option (Unit × am_Mem)} (cx : am_Ctx l rm8_takeFourBytes yX8_takeFourBytes cX8_takeFourBytes 3 none none M' 0 0 G) (hk3 : ∀ (r0 : Nat) (x1 : Int32) (x2 : Int32) (M : am_Mem), k3 r0 x1 x2 M = some ((), M') → G 3 [(0, .inr (.inr (.inl r0))), (1, .inl x1), (2, .inl x2)] [] M 0 0) {r0 : Nat} {x1 : Int32} {x2 : Int32} {M : am_Mem} (hres : fn8_takeFourBytes_b3B N k3 r0 x1 x2 M = some ((), M')) : G 3 [(0, .inr (.inr (.inl r0))), (1, .inl x1), (2, .inl x2)] [] M 0 0 := by
  unfold fn8_takeFourBytes_b3B at hres
  refine am_iload_n cx 2 dX8_takeFourBytes_3 rfl ?_
  refine am_if_lt cx (tgt := 46) dX8_takeFourBytes_4 (by decide) (fun h => ?_) (fun h => ?_)
  · have hres := am_ifp h hres
    refine am_sub cx [] rfl ?_
    exact sn8_takeFourBytes_b46 cx  hres
  · have hres := am_ifn h hres
    refine am_aload_n cx 0 dX8_takeFourBytes_7 rfl ?_
    obtain ⟨q1, hres⟩ := am_ck_some hres
    refine am_getI cx dX8_takeFourBytes_8 flX8_35 (am_ke q1) ?_
    refine am_sipush cx (v := (600 : Int32)) dX8_takeFourBytes_11 (by decide) ?_
    refine am_icmp_ge cx (tgt := 46) dX8_takeFourBytes_14 (by decide) (fun h => ?_) (fun h => ?_)
    · have hres := am_ifp h hres
      refine am_sub cx [] rfl ?_
      exact sn8_takeFourBytes_b46 cx  hres
    · have hres := am_ifn h hres
      refine am_aload_n cx 0 dX8_takeFourBytes_17 rfl ?_
      refine am_getR cx dX8_takeFourBytes_18 flX8_9 (am_ke q1) ?_
      refine am_aload_n cx 0 dX8_takeFourBytes_21 rfl ?_
      refine am_getI cx dX8_takeFourBytes_22 flX8_35 (am_ke q1) ?_
      refine am_iload_n cx 1 dX8_takeFourBytes_25 rfl ?_
      refine am_iload_n cx 2 dX8_takeFourBytes_26 rfl ?_
      refine am_ishr cx dX8_takeFourBytes_27 ?_
      refine am_i2b cx dX8_takeFourBytes_28 ?_
      obtain ⟨q2, hres⟩ := am_ck_some hres
      obtain ⟨q3, hres⟩ := am_ck_some hres
      refine am_bast cx dX8_takeFourBytes_29 (am_ke q2) q3  ?_
      refine am_aload_n cx 0 dX8_takeFourBytes_30 rfl ?_
      refine am_dup cx dX8_takeFourBytes_31 rfl ?_
      refine am_getI cx dX8_takeFourBytes_32 flX8_35 (am_ke q1) ?_
      refine am_iconst cx (v := (1 : Int32)) dX8_takeFourBytes_35 (by decide) ?_
      refine am_iadd cx dX8_takeFourBytes_36 ?_
      refine am_putI cx dX8_takeFourBytes_37 fpX8_35 (fun h => by cases h) (am_ke q1) ?_
      refine am_iincw cx (lv' := [(0, .inr (.inr (.inl r0))), (1, .inl x1), (2, .inl (x2 + (-8 : Int32)))]) (w := (-8 : Int32)) 2 dX8_takeFourBytes_40 (by decide) rfl (Nat.le_of_ble_eq_true rfl) rfl ?_
      refine am_goto cx (tgt := 3) dX8_takeFourBytes_43 (by decide) ?_
      exact hk3 _ _ _ _ hres
set_option maxRecDepth 20000 in
theorem sn8_takeFourBytes_b3 {l : Launch} {G : am_G} {M' : am_Mem} {N : Nat}  (cx : am_Ctx l rm8_takeFourBytes yX8_takeFourBytes cX8_takeFourBytes 3 none none M' 0 0 G)  (i : Nat) : ∀ (r0 : Nat) (x1 : Int32) (x2 : Int32) (M : am_Mem), fn8_takeFourBytes_b3 N  i r0 x1 x2 M = some ((), M') → G 3 [(0, .inr (.inr (.inl r0))), (1, .inl x1), (2, .inl x2)] [] M 0 0 := by
  induction i with
  | zero => intro r0 x1 x2 M hres; exact am_no hres
  | succ i ih => intro r0 x1 x2 M hres; exact sn8_takeFourBytes_b3B cx ih hres
set_option maxRecDepth 20000 in
theorem sn8_takeFourBytes_b0 {l : Launch} {G : am_G} {M' : am_Mem} {N : Nat}  (cx : am_Ctx l rm8_takeFourBytes yX8_takeFourBytes cX8_takeFourBytes 3 none none M' 0 0 G)  {r0 : Nat} {x1 : Int32} {M : am_Mem} (hres : fn8_takeFourBytes_b0 N  r0 x1 M = some ((), M')) : G 0 [(0, .inr (.inr (.inl r0))), (1, .inl x1)] [] M 0 0 := by
  unfold fn8_takeFourBytes_b0 at hres
  refine am_bipush cx (v := (24 : Int32)) dX8_takeFourBytes_0 (by decide) ?_
  refine am_istore_n cx (lv' := [(0, .inr (.inr (.inl r0))), (1, .inl x1), (2, .inl (24 : Int32))]) dX8_takeFourBytes_2 (Nat.le_of_ble_eq_true rfl) rfl ?_
  exact sn8_takeFourBytes_b3 cx  N _ _ _ _ hres
set_option maxRecDepth 20000 in
theorem mt8_takeFourBytes {l : Launch} {M M' : am_Mem} {N : Nat} {r0 : Nat} {x1 : Int32} (h : fn8_takeFourBytes N M r0 x1 = some ((), M')) : am_Met l yX8_takeFourBytes cX8_takeFourBytes 3 none rm8_takeFourBytes 0 0 [.inr (.inr (.inl r0)), .inl x1] M none M' := am_mk (by decide) (Nat.le_of_ble_eq_true rfl) (fun G cx => (sn8_takeFourBytes_b0 cx h))
-- SquareCuts$Reader.holdValue
def fn8_holdValue_b45   (M : am_Mem) : Option (Unit × am_Mem) :=
  some ((), M)
def fn8_holdValue_b10  (r0 : Nat) (x1 : Int32) (M : am_Mem) : Option (Unit × am_Mem) :=
  if (29 : Int32) ≤ x1 then fn8_holdValue_b45   M else am_ck (am_k M r0 8) (am_ck (am_k M (am_R M r0 11) 19) (am_ck (am_in (am_I M r0 8) (am_L M (am_R M r0 11))) (am_ck (am_k M (am_R M (am_R M r0 11) (am_I M r0 8).toNatClampNeg) 14) (am_ck (am_in x1 (am_L M (am_R M (am_R M r0 11) (am_I M r0 8).toNatClampNeg))) (am_ck (am_k M (am_R M r0 10) 14) (am_ck (am_in (am_I (am_wI M (am_R M (am_R M r0 11) (am_I M r0 8).toNatClampNeg) x1.toNatClampNeg ((am_J M r0 5).toInt32)) r0 8) (am_L M (am_R M r0 10))) (am_ck (am_in (am_I (am_wI M (am_R M (am_R M r0 11) (am_I M r0 8).toNatClampNeg) x1.toNatClampNeg ((am_J M r0 5).toInt32)) r0 8) (am_L M (am_R M r0 10))) (fn8_holdValue_b45   (am_wI (am_wI M (am_R M (am_R M r0 11) (am_I M r0 8).toNatClampNeg) x1.toNatClampNeg ((am_J M r0 5).toInt32)) (am_R M r0 10) (am_I (am_wI M (am_R M (am_R M r0 11) (am_I M r0 8).toNatClampNeg) x1.toNatClampNeg ((am_J M r0 5).toInt32)) r0 8).toNatClampNeg ((am_I (am_wI M (am_R M (am_R M r0 11) (am_I M r0 8).toNatClampNeg) x1.toNatClampNeg ((am_J M r0 5).toInt32)) (am_R M r0 10) (am_I (am_wI M (am_R M (am_R M r0 11) (am_I M r0 8).toNatClampNeg) x1.toNatClampNeg ((am_J M r0 5).toInt32)) r0 8).toNatClampNeg) + (1 : Int32)))))))))))
def fn8_holdValue_b0  (r0 : Nat) (M : am_Mem) : Option (Unit × am_Mem) :=
  am_ck (am_k M r0 8) (am_ck (am_k M (am_R M r0 10) 14) (am_ck (am_in (am_I M r0 8) (am_L M (am_R M r0 10))) (fn8_holdValue_b10  r0 (am_I M (am_R M r0 10) (am_I M r0 8).toNatClampNeg) M)))
def fn8_holdValue (M : am_Mem) (r0 : Nat) : Option (Unit × am_Mem) := fn8_holdValue_b0  r0 M
def rm8_holdValue : Room := { frames := 0, cells := 0, slots := 0, locals := 0 }
set_option maxRecDepth 20000 in
theorem sn8_holdValue_b45 {l : Launch} {G : am_G} {M' : am_Mem}  (cx : am_Ctx l rm8_holdValue yX8_holdValue cX8_holdValue 2 none none M' 0 0 G)   {M : am_Mem} (hres : fn8_holdValue_b45   M = some ((), M')) : G 45 [] [] M 0 0 := by
  unfold fn8_holdValue_b45 at hres
  obtain ⟨-, rfl⟩ := am_fin hres
  exact am_vret cx dX8_holdValue_45
set_option maxRecDepth 20000 in
theorem sn8_holdValue_b10 {l : Launch} {G : am_G} {M' : am_Mem}  (cx : am_Ctx l rm8_holdValue yX8_holdValue cX8_holdValue 2 none none M' 0 0 G)  {r0 : Nat} {x1 : Int32} {M : am_Mem} (hres : fn8_holdValue_b10  r0 x1 M = some ((), M')) : G 10 [(0, .inr (.inr (.inl r0))), (1, .inl x1)] [] M 0 0 := by
  unfold fn8_holdValue_b10 at hres
  refine am_iload_n cx 1 dX8_holdValue_10 rfl ?_
  refine am_bipush cx (v := (29 : Int32)) dX8_holdValue_11 (by decide) ?_
  refine am_icmp_ge cx (tgt := 45) dX8_holdValue_13 (by decide) (fun h => ?_) (fun h => ?_)
  · have hres := am_ifp h hres
    refine am_sub cx [] rfl ?_
    exact sn8_holdValue_b45 cx  hres
  · have hres := am_ifn h hres
    refine am_aload_n cx 0 dX8_holdValue_16 rfl ?_
    obtain ⟨q1, hres⟩ := am_ck_some hres
    refine am_getR cx dX8_holdValue_17 flX8_29 (am_ke q1) ?_
    refine am_aload_n cx 0 dX8_holdValue_20 rfl ?_
    refine am_getI cx dX8_holdValue_21 flX8_51 (am_ke q1) ?_
    obtain ⟨q2, hres⟩ := am_ck_some hres
    obtain ⟨q3, hres⟩ := am_ck_some hres
    refine am_aald19 cx dX8_holdValue_24 (am_ke q2) q3 ?_
    refine am_iload_n cx 1 dX8_holdValue_25 rfl ?_
    refine am_aload_n cx 0 dX8_holdValue_26 rfl ?_
    refine am_getJ cx dX8_holdValue_27 flX8_80 (am_ke q1) ?_
    refine am_l2i cx dX8_holdValue_30 ?_
    obtain ⟨q4, hres⟩ := am_ck_some hres
    obtain ⟨q5, hres⟩ := am_ck_some hres
    refine am_iast cx dX8_holdValue_31 (am_ke q4) q5  ?_
    refine am_aload_n cx 0 dX8_holdValue_32 rfl ?_
    refine am_getR cx dX8_holdValue_33 flX8_23 (am_ke q1) ?_
    refine am_aload_n cx 0 dX8_holdValue_36 rfl ?_
    refine am_getI cx dX8_holdValue_37 flX8_51 (am_ke q1) ?_
    refine am_dup2 cx dX8_holdValue_40 rfl rfl ?_
    obtain ⟨q6, hres⟩ := am_ck_some hres
    obtain ⟨q7, hres⟩ := am_ck_some hres
    refine am_iald cx dX8_holdValue_41 (am_ke q6) q7 ?_
    refine am_iconst cx (v := (1 : Int32)) dX8_holdValue_42 (by decide) ?_
    refine am_iadd cx dX8_holdValue_43 ?_
    obtain ⟨q8, hres⟩ := am_ck_some hres
    refine am_iast cx dX8_holdValue_44 (am_ke q6) q8  ?_
    refine am_sub cx [] rfl ?_
    exact sn8_holdValue_b45 cx  hres
set_option maxRecDepth 20000 in
theorem sn8_holdValue_b0 {l : Launch} {G : am_G} {M' : am_Mem}  (cx : am_Ctx l rm8_holdValue yX8_holdValue cX8_holdValue 2 none none M' 0 0 G)  {r0 : Nat} {M : am_Mem} (hres : fn8_holdValue_b0  r0 M = some ((), M')) : G 0 [(0, .inr (.inr (.inl r0)))] [] M 0 0 := by
  unfold fn8_holdValue_b0 at hres
  refine am_aload_n cx 0 dX8_holdValue_0 rfl ?_
  obtain ⟨q1, hres⟩ := am_ck_some hres
  refine am_getR cx dX8_holdValue_1 flX8_23 (am_ke q1) ?_
  refine am_aload_n cx 0 dX8_holdValue_4 rfl ?_
  refine am_getI cx dX8_holdValue_5 flX8_51 (am_ke q1) ?_
  obtain ⟨q2, hres⟩ := am_ck_some hres
  obtain ⟨q3, hres⟩ := am_ck_some hres
  refine am_iald cx dX8_holdValue_8 (am_ke q2) q3 ?_
  refine am_istore_n cx (lv' := [(0, .inr (.inr (.inl r0))), (1, .inl (am_I M (am_R M r0 10) (am_I M r0 8).toNatClampNeg))]) dX8_holdValue_9 (Nat.le_of_ble_eq_true rfl) rfl ?_
  exact sn8_holdValue_b10 cx  hres
set_option maxRecDepth 20000 in
theorem mt8_holdValue {l : Launch} {M M' : am_Mem} {r0 : Nat} (h : fn8_holdValue M r0 = some ((), M')) : am_Met l yX8_holdValue cX8_holdValue 2 none rm8_holdValue 0 0 [.inr (.inr (.inl r0))] M none M' := am_mk (by decide) (Nat.le_of_ble_eq_true rfl) (fun G cx => (sn8_holdValue_b0 cx h))
-- SquareCuts$Reader.isNameThere
def fn8_isNameThere_b2B (N : Nat) (k2 : Nat → Int32 → am_Mem → Option (Int32 × am_Mem)) (r0 : Nat) (x1 : Int32) (M : am_Mem) : Option (Int32 × am_Mem) :=
  am_ck (am_k M r0 8) (if (am_I M r0 8) ≤ x1 then some ((0 : Int32), M) else am_ck (am_k M (am_R M r0 6) 15) (am_ck (am_in x1 (am_L M (am_R M r0 6))) (if (lg_cmp (am_J M (am_R M r0 6) x1.toNatClampNeg) (am_J M r0 5)) = 0 then some ((1 : Int32), M) else k2 r0 (x1 + (1 : Int32)) M)))
def fn8_isNameThere_b2 (N : Nat)  : Nat → Nat → Int32 → am_Mem → Option (Int32 × am_Mem)
  | 0 => fun _ _ _ => none
  | i + 1 => fn8_isNameThere_b2B N (fn8_isNameThere_b2 N  i)
def fn8_isNameThere_b0 (N : Nat)  (r0 : Nat) (M : am_Mem) : Option (Int32 × am_Mem) :=
  fn8_isNameThere_b2 N  N r0 (0 : Int32) M
def fn8_isNameThere (N : Nat) (M : am_Mem) (r0 : Nat) : Option (Int32 × am_Mem) := fn8_isNameThere_b0 N r0 M
def rm8_isNameThere : Room := { frames := 0, cells := 0, slots := 0, locals := 0 }
set_option maxRecDepth 20000 in
theorem sn8_isNameThere_b2B {l : Launch} {G : am_G} {v : Int32} {M' : am_Mem} {N : Nat} {k2 : Nat → Int32 → am_Mem → Option (Int32 × am_Mem)} (cx : am_Ctx l rm8_isNameThere yX8_isNameThere cX8_isNameThere 2 (some .boolean) (some (.inl v)) M' 0 0 G) (hk2 : ∀ (r0 : Nat) (x1 : Int32) (M : am_Mem), k2 r0 x1 M = some (v, M') → G 2 [(0, .inr (.inr (.inl r0))), (1, .inl x1)] [] M 0 0) {r0 : Nat} {x1 : Int32} {M : am_Mem} (hres : fn8_isNameThere_b2B N k2 r0 x1 M = some (v, M')) : G 2 [(0, .inr (.inr (.inl r0))), (1, .inl x1)] [] M 0 0 := by
  unfold fn8_isNameThere_b2B at hres
  refine am_iload_n cx 1 dX8_isNameThere_2 rfl ?_
  refine am_aload_n cx 0 dX8_isNameThere_3 rfl ?_
  obtain ⟨q1, hres⟩ := am_ck_some hres
  refine am_getI cx dX8_isNameThere_4 flX8_51 (am_ke q1) ?_
  refine am_icmp_ge cx (tgt := 32) dX8_isNameThere_7 (by decide) (fun h => ?_) (fun h => ?_)
  · have hres := am_ifp h hres
    refine am_iconst cx (v := (0 : Int32)) dX8_isNameThere_32 (by decide) ?_
    obtain ⟨rfl, rfl⟩ := am_fin hres
    exact am_zret cx rfl dX8_isNameThere_33
  · have hres := am_ifn h hres
    refine am_aload_n cx 0 dX8_isNameThere_10 rfl ?_
    refine am_getR cx dX8_isNameThere_11 flX8_15 (am_ke q1) ?_
    refine am_iload_n cx 1 dX8_isNameThere_14 rfl ?_
    obtain ⟨q2, hres⟩ := am_ck_some hres
    obtain ⟨q3, hres⟩ := am_ck_some hres
    refine am_lald cx dX8_isNameThere_15 (am_ke q2) q3 ?_
    refine am_aload_n cx 0 dX8_isNameThere_16 rfl ?_
    refine am_getJ cx dX8_isNameThere_17 flX8_80 (am_ke q1) ?_
    refine am_lcmp cx dX8_isNameThere_20 ?_
    refine am_if_ne cx (tgt := 26) dX8_isNameThere_21 (by decide) (fun h => ?_) (fun h => ?_)
    · have hres := am_ifn h hres
      refine am_iincw cx (lv' := [(0, .inr (.inr (.inl r0))), (1, .inl (x1 + (1 : Int32)))]) (w := (1 : Int32)) 1 dX8_isNameThere_26 (by decide) rfl (Nat.le_of_ble_eq_true rfl) rfl ?_
      refine am_goto cx (tgt := 2) dX8_isNameThere_29 (by decide) ?_
      exact hk2 _ _ _ hres
    · have hres := am_ifp h hres
      refine am_iconst cx (v := (1 : Int32)) dX8_isNameThere_24 (by decide) ?_
      obtain ⟨rfl, rfl⟩ := am_fin hres
      exact am_zret cx rfl dX8_isNameThere_25
set_option maxRecDepth 20000 in
theorem sn8_isNameThere_b2 {l : Launch} {G : am_G} {v : Int32} {M' : am_Mem} {N : Nat}  (cx : am_Ctx l rm8_isNameThere yX8_isNameThere cX8_isNameThere 2 (some .boolean) (some (.inl v)) M' 0 0 G)  (i : Nat) : ∀ (r0 : Nat) (x1 : Int32) (M : am_Mem), fn8_isNameThere_b2 N  i r0 x1 M = some (v, M') → G 2 [(0, .inr (.inr (.inl r0))), (1, .inl x1)] [] M 0 0 := by
  induction i with
  | zero => intro r0 x1 M hres; exact am_no hres
  | succ i ih => intro r0 x1 M hres; exact sn8_isNameThere_b2B cx ih hres
set_option maxRecDepth 20000 in
theorem sn8_isNameThere_b0 {l : Launch} {G : am_G} {v : Int32} {M' : am_Mem} {N : Nat}  (cx : am_Ctx l rm8_isNameThere yX8_isNameThere cX8_isNameThere 2 (some .boolean) (some (.inl v)) M' 0 0 G)  {r0 : Nat} {M : am_Mem} (hres : fn8_isNameThere_b0 N  r0 M = some (v, M')) : G 0 [(0, .inr (.inr (.inl r0)))] [] M 0 0 := by
  unfold fn8_isNameThere_b0 at hres
  refine am_iconst cx (v := (0 : Int32)) dX8_isNameThere_0 (by decide) ?_
  refine am_istore_n cx (lv' := [(0, .inr (.inr (.inl r0))), (1, .inl (0 : Int32))]) dX8_isNameThere_1 (Nat.le_of_ble_eq_true rfl) rfl ?_
  exact sn8_isNameThere_b2 cx  N _ _ _ hres
set_option maxRecDepth 20000 in
theorem mt8_isNameThere {l : Launch} {v : Int32} {M M' : am_Mem} {N : Nat} {r0 : Nat} (h : fn8_isNameThere N M r0 = some (v, M')) : am_Met l yX8_isNameThere cX8_isNameThere 2 (some .boolean) rm8_isNameThere 0 0 [.inr (.inr (.inl r0))] M (some (.inl v)) M' := am_mk (by decide) (Nat.le_of_ble_eq_true rfl) (fun G cx => (sn8_isNameThere_b0 cx h))
-- SquareCuts$Reader.isWord
def fn8_isWord_b22  (a0 : Int32) (M : am_Mem) : Option (Int32 × am_Mem) :=
  am_ck (a0 == 0 || a0 == 1) (some (a0, M))
def fn8_isWord_b21   (M : am_Mem) : Option (Int32 × am_Mem) :=
  fn8_isWord_b22  (0 : Int32) M
def fn8_isWord_b0  (r0 : Nat) (j1 : Int64) (M : am_Mem) : Option (Int32 × am_Mem) :=
  am_ck (am_k M r0 8) (if (am_I M r0 3) = (1 : Int32) then if (lg_cmp (am_J M r0 5) j1) = 0 then fn8_isWord_b22  (1 : Int32) M else fn8_isWord_b21   M else fn8_isWord_b21   M)
def fn8_isWord (M : am_Mem) (r0 : Nat) (j1 : Int64) : Option (Int32 × am_Mem) := fn8_isWord_b0  r0 j1 M
def rm8_isWord : Room := { frames := 0, cells := 0, slots := 0, locals := 0 }
set_option maxRecDepth 20000 in
theorem sn8_isWord_b22 {l : Launch} {G : am_G} {v : Int32} {M' : am_Mem}  (cx : am_Ctx l rm8_isWord yX8_isWord cX8_isWord 3 (some .boolean) (some (.inl v)) M' 0 0 G)  {a0 : Int32} {M : am_Mem} (hres : fn8_isWord_b22  a0 M = some (v, M')) : G 22 [] [.inl a0] M 0 0 := by
  unfold fn8_isWord_b22 at hres
  obtain ⟨q1, hres⟩ := am_ck_some hres
  obtain ⟨rfl, rfl⟩ := am_fin hres
  exact am_zret cx q1 dX8_isWord_22
set_option maxRecDepth 20000 in
theorem sn8_isWord_b21 {l : Launch} {G : am_G} {v : Int32} {M' : am_Mem}  (cx : am_Ctx l rm8_isWord yX8_isWord cX8_isWord 3 (some .boolean) (some (.inl v)) M' 0 0 G)   {M : am_Mem} (hres : fn8_isWord_b21   M = some (v, M')) : G 21 [] [] M 0 0 := by
  unfold fn8_isWord_b21 at hres
  refine am_iconst cx (v := (0 : Int32)) dX8_isWord_21 (by decide) ?_
  exact sn8_isWord_b22 cx  hres
set_option maxRecDepth 20000 in
theorem sn8_isWord_b0 {l : Launch} {G : am_G} {v : Int32} {M' : am_Mem}  (cx : am_Ctx l rm8_isWord yX8_isWord cX8_isWord 3 (some .boolean) (some (.inl v)) M' 0 0 G)  {r0 : Nat} {j1 : Int64} {M : am_Mem} (hres : fn8_isWord_b0  r0 j1 M = some (v, M')) : G 0 [(0, .inr (.inr (.inl r0))), (1, .inr (.inl j1))] [] M 0 0 := by
  unfold fn8_isWord_b0 at hres
  refine am_aload_n cx 0 dX8_isWord_0 rfl ?_
  obtain ⟨q1, hres⟩ := am_ck_some hres
  refine am_getI cx dX8_isWord_1 flX8_57 (am_ke q1) ?_
  refine am_iconst cx (v := (1 : Int32)) dX8_isWord_4 (by decide) ?_
  refine am_icmp_ne cx (tgt := 21) dX8_isWord_5 (by decide) (fun h => ?_) (fun h => ?_)
  · have hres := am_ifn h hres
    refine am_sub cx [] rfl ?_
    exact sn8_isWord_b21 cx  hres
  · have hres := am_ifp h hres
    refine am_aload_n cx 0 dX8_isWord_8 rfl ?_
    refine am_getJ cx dX8_isWord_9 flX8_80 (am_ke q1) ?_
    refine am_lload_n cx 1 dX8_isWord_12 rfl ?_
    refine am_lcmp cx dX8_isWord_13 ?_
    refine am_if_ne cx (tgt := 21) dX8_isWord_14 (by decide) (fun h => ?_) (fun h => ?_)
    · have hres := am_ifn h hres
      refine am_sub cx [] rfl ?_
      exact sn8_isWord_b21 cx  hres
    · have hres := am_ifp h hres
      refine am_iconst cx (v := (1 : Int32)) dX8_isWord_17 (by decide) ?_
      refine am_goto cx (tgt := 22) dX8_isWord_18 (by decide) ?_
      refine am_sub cx [] rfl ?_
      exact sn8_isWord_b22 cx  hres
set_option maxRecDepth 20000 in
theorem mt8_isWord {l : Launch} {v : Int32} {M M' : am_Mem} {r0 : Nat} {j1 : Int64} (h : fn8_isWord M r0 j1 = some (v, M')) : am_Met l yX8_isWord cX8_isWord 3 (some .boolean) rm8_isWord 0 0 [.inr (.inr (.inl r0)), .inr (.inl j1)] M (some (.inl v)) M' := am_mk (by decide) (Nat.le_of_ble_eq_true rfl) (fun G cx => (sn8_isWord_b0 cx h))
-- SquareCuts$Reader.faultOf
def fn8_faultOf_b0  (r0 : Nat) (x1 : Int32) (M : am_Mem) : Option (Int32 × am_Mem) :=
  am_ck (am_k M r0 8) (some ((((8 : Int32) * (am_I M r0 4)) + x1), M))
def fn8_faultOf (M : am_Mem) (r0 : Nat) (x1 : Int32) : Option (Int32 × am_Mem) := fn8_faultOf_b0  r0 x1 M
def rm8_faultOf : Room := { frames := 0, cells := 0, slots := 0, locals := 0 }
set_option maxRecDepth 20000 in
theorem sn8_faultOf_b0 {l : Launch} {G : am_G} {v : Int32} {M' : am_Mem}  (cx : am_Ctx l rm8_faultOf yX8_faultOf cX8_faultOf 2 (some .int) (some (.inl v)) M' 0 0 G)  {r0 : Nat} {x1 : Int32} {M : am_Mem} (hres : fn8_faultOf_b0  r0 x1 M = some (v, M')) : G 0 [(0, .inr (.inr (.inl r0))), (1, .inl x1)] [] M 0 0 := by
  unfold fn8_faultOf_b0 at hres
  refine am_bipush cx (v := (8 : Int32)) dX8_faultOf_0 (by decide) ?_
  refine am_aload_n cx 0 dX8_faultOf_2 rfl ?_
  obtain ⟨q1, hres⟩ := am_ck_some hres
  refine am_getI cx dX8_faultOf_3 flX8_104 (am_ke q1) ?_
  refine am_imul cx dX8_faultOf_6 ?_
  refine am_iload_n cx 1 dX8_faultOf_7 rfl ?_
  refine am_iadd cx dX8_faultOf_8 ?_
  obtain ⟨rfl, rfl⟩ := am_fin hres
  exact am_iret cx dX8_faultOf_9
set_option maxRecDepth 20000 in
theorem mt8_faultOf {l : Launch} {v : Int32} {M M' : am_Mem} {r0 : Nat} {x1 : Int32} (h : fn8_faultOf M r0 x1 = some (v, M')) : am_Met l yX8_faultOf cX8_faultOf 2 (some .int) rm8_faultOf 0 0 [.inr (.inr (.inl r0)), .inl x1] M (some (.inl v)) M' := am_mk (by decide) (Nat.le_of_ble_eq_true rfl) (fun G cx => (sn8_faultOf_b0 cx h))
-- SquareCuts$Reader.tokenBegunBy
def fn8_tokenBegunBy_b28  (x0 : Int32) (M : am_Mem) : Option (Int32 × am_Mem) :=
  if x0 = (40 : Int32) then (some ((3 : Int32), M)) else (if x0 = (41 : Int32) then (some ((4 : Int32), M)) else (if x0 = (59 : Int32) then (some ((5 : Int32), M)) else (some ((6 : Int32), M))))
def fn8_tokenBegunBy_b14  (x0 : Int32) (M : am_Mem) : Option (Int32 × am_Mem) :=
  if x0 < (48 : Int32) then fn8_tokenBegunBy_b28  x0 M else if (57 : Int32) < x0 then fn8_tokenBegunBy_b28  x0 M else some ((2 : Int32), M)
def fn8_tokenBegunBy_b0  (x0 : Int32) (M : am_Mem) : Option (Int32 × am_Mem) :=
  if x0 < (97 : Int32) then fn8_tokenBegunBy_b14  x0 M else if (122 : Int32) < x0 then fn8_tokenBegunBy_b14  x0 M else some ((1 : Int32), M)
def fn8_tokenBegunBy (M : am_Mem) (x0 : Int32) : Option (Int32 × am_Mem) := fn8_tokenBegunBy_b0  x0 M
def rm8_tokenBegunBy : Room := { frames := 0, cells := 0, slots := 0, locals := 0 }
set_option maxRecDepth 20000 in
theorem sn8_tokenBegunBy_b28 {l : Launch} {G : am_G} {v : Int32} {M' : am_Mem}  (cx : am_Ctx l rm8_tokenBegunBy yX8_tokenBegunBy cX8_tokenBegunBy 1 (some .int) (some (.inl v)) M' 0 0 G)  {x0 : Int32} {M : am_Mem} (hres : fn8_tokenBegunBy_b28  x0 M = some (v, M')) : G 28 [(0, .inl x0)] [] M 0 0 := by
  unfold fn8_tokenBegunBy_b28 at hres
  refine am_iload_n cx 0 dX8_tokenBegunBy_28 rfl ?_
  by_cases w1 : x0 = (40 : Int32)
  · refine am_lookup cx (tgt := 64) (off := 35) dX8_tokenBegunBy_29 (by decide) (by rw [w1]; decide) (by decide) ?_
    have hres := am_ifp w1 hres
    refine am_iconst cx (v := (3 : Int32)) dX8_tokenBegunBy_64 (by decide) ?_
    obtain ⟨rfl, rfl⟩ := am_fin hres
    exact am_iret cx dX8_tokenBegunBy_65
  have hres := am_ifn w1 hres
  by_cases w2 : x0 = (41 : Int32)
  · refine am_lookup cx (tgt := 66) (off := 37) dX8_tokenBegunBy_29 (by decide) (by rw [w2]; decide) (by decide) ?_
    have hres := am_ifp w2 hres
    refine am_iconst cx (v := (4 : Int32)) dX8_tokenBegunBy_66 (by decide) ?_
    obtain ⟨rfl, rfl⟩ := am_fin hres
    exact am_iret cx dX8_tokenBegunBy_67
  have hres := am_ifn w2 hres
  by_cases w3 : x0 = (59 : Int32)
  · refine am_lookup cx (tgt := 68) (off := 39) dX8_tokenBegunBy_29 (by decide) (by rw [w3]; decide) (by decide) ?_
    have hres := am_ifp w3 hres
    refine am_iconst cx (v := (5 : Int32)) dX8_tokenBegunBy_68 (by decide) ?_
    obtain ⟨rfl, rfl⟩ := am_fin hres
    exact am_iret cx dX8_tokenBegunBy_69
  have hres := am_ifn w3 hres
  refine am_lookup cx (tgt := 70) (off := 41) dX8_tokenBegunBy_29 (by decide) (am_lk3 w1 w2 w3) (by decide) ?_
  skip
  refine am_bipush cx (v := (6 : Int32)) dX8_tokenBegunBy_70 (by decide) ?_
  obtain ⟨rfl, rfl⟩ := am_fin hres
  exact am_iret cx dX8_tokenBegunBy_72
set_option maxRecDepth 20000 in
theorem sn8_tokenBegunBy_b14 {l : Launch} {G : am_G} {v : Int32} {M' : am_Mem}  (cx : am_Ctx l rm8_tokenBegunBy yX8_tokenBegunBy cX8_tokenBegunBy 1 (some .int) (some (.inl v)) M' 0 0 G)  {x0 : Int32} {M : am_Mem} (hres : fn8_tokenBegunBy_b14  x0 M = some (v, M')) : G 14 [(0, .inl x0)] [] M 0 0 := by
  unfold fn8_tokenBegunBy_b14 at hres
  refine am_iload_n cx 0 dX8_tokenBegunBy_14 rfl ?_
  refine am_bipush cx (v := (48 : Int32)) dX8_tokenBegunBy_15 (by decide) ?_
  refine am_icmp_lt cx (tgt := 28) dX8_tokenBegunBy_17 (by decide) (fun h => ?_) (fun h => ?_)
  · have hres := am_ifp h hres
    exact sn8_tokenBegunBy_b28 cx  hres
  · have hres := am_ifn h hres
    refine am_iload_n cx 0 dX8_tokenBegunBy_20 rfl ?_
    refine am_bipush cx (v := (57 : Int32)) dX8_tokenBegunBy_21 (by decide) ?_
    refine am_icmp_gt cx (tgt := 28) dX8_tokenBegunBy_23 (by decide) (fun h => ?_) (fun h => ?_)
    · have hres := am_ifp h hres
      exact sn8_tokenBegunBy_b28 cx  hres
    · have hres := am_ifn h hres
      refine am_iconst cx (v := (2 : Int32)) dX8_tokenBegunBy_26 (by decide) ?_
      obtain ⟨rfl, rfl⟩ := am_fin hres
      exact am_iret cx dX8_tokenBegunBy_27
set_option maxRecDepth 20000 in
theorem sn8_tokenBegunBy_b0 {l : Launch} {G : am_G} {v : Int32} {M' : am_Mem}  (cx : am_Ctx l rm8_tokenBegunBy yX8_tokenBegunBy cX8_tokenBegunBy 1 (some .int) (some (.inl v)) M' 0 0 G)  {x0 : Int32} {M : am_Mem} (hres : fn8_tokenBegunBy_b0  x0 M = some (v, M')) : G 0 [(0, .inl x0)] [] M 0 0 := by
  unfold fn8_tokenBegunBy_b0 at hres
  refine am_iload_n cx 0 dX8_tokenBegunBy_0 rfl ?_
  refine am_bipush cx (v := (97 : Int32)) dX8_tokenBegunBy_1 (by decide) ?_
  refine am_icmp_lt cx (tgt := 14) dX8_tokenBegunBy_3 (by decide) (fun h => ?_) (fun h => ?_)
  · have hres := am_ifp h hres
    exact sn8_tokenBegunBy_b14 cx  hres
  · have hres := am_ifn h hres
    refine am_iload_n cx 0 dX8_tokenBegunBy_6 rfl ?_
    refine am_bipush cx (v := (122 : Int32)) dX8_tokenBegunBy_7 (by decide) ?_
    refine am_icmp_gt cx (tgt := 14) dX8_tokenBegunBy_9 (by decide) (fun h => ?_) (fun h => ?_)
    · have hres := am_ifp h hres
      exact sn8_tokenBegunBy_b14 cx  hres
    · have hres := am_ifn h hres
      refine am_iconst cx (v := (1 : Int32)) dX8_tokenBegunBy_12 (by decide) ?_
      obtain ⟨rfl, rfl⟩ := am_fin hres
      exact am_iret cx dX8_tokenBegunBy_13
set_option maxRecDepth 20000 in
theorem mt8_tokenBegunBy {l : Launch} {v : Int32} {M M' : am_Mem} {x0 : Int32} (h : fn8_tokenBegunBy M x0 = some (v, M')) : am_Met l yX8_tokenBegunBy cX8_tokenBegunBy 1 (some .int) rm8_tokenBegunBy 0 0 [.inl x0] M (some (.inl v)) M' := am_mk (by decide) (Nat.le_of_ble_eq_true rfl) (fun G cx => (sn8_tokenBegunBy_b0 cx h))
-- SquareCuts$Shelf.<init>
def fn9_init_b13   (M : am_Mem) : Option (Unit × am_Mem) :=
  some ((), M)
def fn9_init_b0  (r0 : Nat) (M : am_Mem) : Option (Unit × am_Mem) :=
  am_ck (am_k M r0 9) (am_ck (am_k (am_new M 18 (12 : Int32).toNatClampNeg) r0 9) (fn9_init_b13   (am_wR (am_new M 18 (12 : Int32).toNatClampNeg) r0 0 (am_n M + 1))))
def fn9_init (M : am_Mem) (r0 : Nat) : Option (Unit × am_Mem) := fn9_init_b0  r0 M
def rm9_init : Room := { frames := 1, cells := 1, slots := 12, locals := 20 }
set_option maxRecDepth 20000 in
theorem sn9_init_b13 {l : Launch} {G : am_G} {M' : am_Mem}  (cx : am_Ctx l rm9_init yX9_init cX9_init 1 none none M' 1 12 G)   {M : am_Mem} (hres : fn9_init_b13   M = some ((), M')) : G 13 [] [] M 1 12 := by
  unfold fn9_init_b13 at hres
  obtain ⟨-, rfl⟩ := am_fin hres
  exact am_vret cx dX9_init_13
set_option maxRecDepth 20000 in
theorem sn9_init_b0 {l : Launch} {G : am_G} {M' : am_Mem}  (cx : am_Ctx l rm9_init yX9_init cX9_init 1 none none M' 1 12 G)  {r0 : Nat} {M : am_Mem} (hres : fn9_init_b0  r0 M = some ((), M')) : G 0 [(0, .inr (.inr (.inl r0)))] [] M 0 0 := by
  unfold fn9_init_b0 at hres
  refine am_aload_n cx 0 dX9_init_0 rfl ?_
  obtain ⟨q1, hres⟩ := am_ck_some hres
  refine am_objInit cx dX9_init_1 aw_2_14 aw_1_31 aw_1_32 (by rw [show am_K _ _ = 9 from (am_ke q1)]; decide) (Nat.le_of_ble_eq_true rfl) (Nat.le_of_ble_eq_true rfl) ?_
  refine am_aload_n cx 0 dX9_init_4 rfl ?_
  refine am_bipush cx (v := (12 : Int32)) dX9_init_5 (by decide) ?_
  refine am_anew18 cx 12 dX9_init_7 aw_2_15 an_2_16 (by decide) (Nat.le_of_ble_eq_true rfl) (Nat.le_of_ble_eq_true rfl) (Nat.le_of_ble_eq_true rfl) ?_
  obtain ⟨q2, hres⟩ := am_ck_some hres
  refine am_putR cx dX9_init_10 fpX9_11 (fun _ => rfl) (Or.inr ⟨_, rfl⟩) (am_ke q2) ?_
  refine am_sub cx [] rfl ?_
  exact sn9_init_b13 cx  hres
set_option maxRecDepth 20000 in
theorem mt9_init {l : Launch} {M M' : am_Mem} {r0 : Nat} (h : fn9_init M r0 = some ((), M')) : am_Met l yX9_init cX9_init 1 none rm9_init 1 12 [.inr (.inr (.inl r0))] M none M' := am_mk (by decide) (Nat.le_of_ble_eq_true rfl) (fun G cx => (sn9_init_b0 cx h))
-- SquareCuts$Shelf.clear
def fn9_clear_b0  (r0 : Nat) (M : am_Mem) : Option (Unit × am_Mem) :=
  am_ck (am_k M r0 9) (some ((), (am_wI (am_wI M r0 1 (0 : Int32)) r0 2 (0 : Int32))))
def fn9_clear (M : am_Mem) (r0 : Nat) : Option (Unit × am_Mem) := fn9_clear_b0  r0 M
def rm9_clear : Room := { frames := 0, cells := 0, slots := 0, locals := 0 }
set_option maxRecDepth 20000 in
theorem sn9_clear_b0 {l : Launch} {G : am_G} {M' : am_Mem}  (cx : am_Ctx l rm9_clear yX9_clear cX9_clear 1 none none M' 0 0 G)  {r0 : Nat} {M : am_Mem} (hres : fn9_clear_b0  r0 M = some ((), M')) : G 0 [(0, .inr (.inr (.inl r0)))] [] M 0 0 := by
  unfold fn9_clear_b0 at hres
  refine am_aload_n cx 0 dX9_clear_0 rfl ?_
  refine am_iconst cx (v := (0 : Int32)) dX9_clear_1 (by decide) ?_
  obtain ⟨q1, hres⟩ := am_ck_some hres
  refine am_putI cx dX9_clear_2 fpX9_17 (fun h => by cases h) (am_ke q1) ?_
  refine am_aload_n cx 0 dX9_clear_5 rfl ?_
  refine am_iconst cx (v := (0 : Int32)) dX9_clear_6 (by decide) ?_
  refine am_putZ cx dX9_clear_7 fpX9_21 (fun h => by cases h) rfl (am_ke q1) ?_
  obtain ⟨-, rfl⟩ := am_fin hres
  exact am_vret cx dX9_clear_10
set_option maxRecDepth 20000 in
theorem mt9_clear {l : Launch} {M M' : am_Mem} {r0 : Nat} (h : fn9_clear M r0 = some ((), M')) : am_Met l yX9_clear cX9_clear 1 none rm9_clear 0 0 [.inr (.inr (.inl r0))] M none M' := am_mk (by decide) (Nat.le_of_ble_eq_true rfl) (fun G cx => (sn9_clear_b0 cx h))
-- SquareCuts$Shelf.put
def fn9_put_b29   (M : am_Mem) : Option (Unit × am_Mem) :=
  some ((), M)
def fn9_put_b0  (r0 : Nat) (r1 : Nat) (M : am_Mem) : Option (Unit × am_Mem) :=
  am_ck (am_k M r0 9) (if (12 : Int32) ≤ (am_I M r0 1) then fn9_put_b29   M else am_ck (am_k M (am_R M r0 0) 18) (am_ck (am_in (am_I M r0 1) (am_L M (am_R M r0 0))) (am_ck (am_k M r1 10) (fn9_put_b29   (am_wI (am_wR M (am_R M r0 0) (am_I M r0 1).toNatClampNeg r1) r0 1 ((am_I M r0 1) + (1 : Int32)))))))
def fn9_put (M : am_Mem) (r0 : Nat) (r1 : Nat) : Option (Unit × am_Mem) := fn9_put_b0  r0 r1 M
def rm9_put : Room := { frames := 0, cells := 0, slots := 0, locals := 0 }
set_option maxRecDepth 20000 in
theorem sn9_put_b29 {l : Launch} {G : am_G} {M' : am_Mem}  (cx : am_Ctx l rm9_put yX9_put cX9_put 2 none none M' 0 0 G)   {M : am_Mem} (hres : fn9_put_b29   M = some ((), M')) : G 29 [] [] M 0 0 := by
  unfold fn9_put_b29 at hres
  obtain ⟨-, rfl⟩ := am_fin hres
  exact am_vret cx dX9_put_29
set_option maxRecDepth 20000 in
theorem sn9_put_b0 {l : Launch} {G : am_G} {M' : am_Mem}  (cx : am_Ctx l rm9_put yX9_put cX9_put 2 none none M' 0 0 G)  {r0 : Nat} {r1 : Nat} {M : am_Mem} (hres : fn9_put_b0  r0 r1 M = some ((), M')) : G 0 [(0, .inr (.inr (.inl r0))), (1, .inr (.inr (.inl r1)))] [] M 0 0 := by
  unfold fn9_put_b0 at hres
  refine am_aload_n cx 0 dX9_put_0 rfl ?_
  obtain ⟨q1, hres⟩ := am_ck_some hres
  refine am_getI cx dX9_put_1 flX9_17 (am_ke q1) ?_
  refine am_bipush cx (v := (12 : Int32)) dX9_put_4 (by decide) ?_
  refine am_icmp_ge cx (tgt := 29) dX9_put_6 (by decide) (fun h => ?_) (fun h => ?_)
  · have hres := am_ifp h hres
    refine am_sub cx [] rfl ?_
    exact sn9_put_b29 cx  hres
  · have hres := am_ifn h hres
    refine am_aload_n cx 0 dX9_put_9 rfl ?_
    refine am_getR cx dX9_put_10 flX9_11 (am_ke q1) ?_
    refine am_aload_n cx 0 dX9_put_13 rfl ?_
    refine am_getI cx dX9_put_14 flX9_17 (am_ke q1) ?_
    refine am_aload_n cx 1 dX9_put_17 rfl ?_
    obtain ⟨q2, hres⟩ := am_ck_some hres
    obtain ⟨q3, hres⟩ := am_ck_some hres
    obtain ⟨q4, hres⟩ := am_ck_some hres
    refine am_aast18 cx dX9_put_18 (am_ke q2) q3 (am_ke q4) ?_
    refine am_aload_n cx 0 dX9_put_19 rfl ?_
    refine am_dup cx dX9_put_20 rfl ?_
    refine am_getI cx dX9_put_21 flX9_17 (am_ke q1) ?_
    refine am_iconst cx (v := (1 : Int32)) dX9_put_24 (by decide) ?_
    refine am_iadd cx dX9_put_25 ?_
    refine am_putI cx dX9_put_26 fpX9_17 (fun h => by cases h) (am_ke q1) ?_
    refine am_sub cx [] rfl ?_
    exact sn9_put_b29 cx  hres
set_option maxRecDepth 20000 in
theorem mt9_put {l : Launch} {M M' : am_Mem} {r0 : Nat} {r1 : Nat} (h : fn9_put M r0 r1 = some ((), M')) : am_Met l yX9_put cX9_put 2 none rm9_put 0 0 [.inr (.inr (.inl r0)), .inr (.inr (.inl r1))] M none M' := am_mk (by decide) (Nat.le_of_ble_eq_true rfl) (fun G cx => (sn9_put_b0 cx h))
-- SquareCuts$Shelf.dropLast
def fn9_dropLast_b17   (M : am_Mem) : Option (Unit × am_Mem) :=
  some ((), M)
def fn9_dropLast_b0  (r0 : Nat) (M : am_Mem) : Option (Unit × am_Mem) :=
  am_ck (am_k M r0 9) (if (am_I M r0 1) ≤ 0 then fn9_dropLast_b17   M else fn9_dropLast_b17   (am_wI M r0 1 ((am_I M r0 1) - (1 : Int32))))
def fn9_dropLast (M : am_Mem) (r0 : Nat) : Option (Unit × am_Mem) := fn9_dropLast_b0  r0 M
def rm9_dropLast : Room := { frames := 0, cells := 0, slots := 0, locals := 0 }
set_option maxRecDepth 20000 in
theorem sn9_dropLast_b17 {l : Launch} {G : am_G} {M' : am_Mem}  (cx : am_Ctx l rm9_dropLast yX9_dropLast cX9_dropLast 1 none none M' 0 0 G)   {M : am_Mem} (hres : fn9_dropLast_b17   M = some ((), M')) : G 17 [] [] M 0 0 := by
  unfold fn9_dropLast_b17 at hres
  obtain ⟨-, rfl⟩ := am_fin hres
  exact am_vret cx dX9_dropLast_17
set_option maxRecDepth 20000 in
theorem sn9_dropLast_b0 {l : Launch} {G : am_G} {M' : am_Mem}  (cx : am_Ctx l rm9_dropLast yX9_dropLast cX9_dropLast 1 none none M' 0 0 G)  {r0 : Nat} {M : am_Mem} (hres : fn9_dropLast_b0  r0 M = some ((), M')) : G 0 [(0, .inr (.inr (.inl r0)))] [] M 0 0 := by
  unfold fn9_dropLast_b0 at hres
  refine am_aload_n cx 0 dX9_dropLast_0 rfl ?_
  obtain ⟨q1, hres⟩ := am_ck_some hres
  refine am_getI cx dX9_dropLast_1 flX9_17 (am_ke q1) ?_
  refine am_if_le cx (tgt := 17) dX9_dropLast_4 (by decide) (fun h => ?_) (fun h => ?_)
  · have hres := am_ifp h hres
    refine am_sub cx [] rfl ?_
    exact sn9_dropLast_b17 cx  hres
  · have hres := am_ifn h hres
    refine am_aload_n cx 0 dX9_dropLast_7 rfl ?_
    refine am_dup cx dX9_dropLast_8 rfl ?_
    refine am_getI cx dX9_dropLast_9 flX9_17 (am_ke q1) ?_
    refine am_iconst cx (v := (1 : Int32)) dX9_dropLast_12 (by decide) ?_
    refine am_isub cx dX9_dropLast_13 ?_
    refine am_putI cx dX9_dropLast_14 fpX9_17 (fun h => by cases h) (am_ke q1) ?_
    refine am_sub cx [] rfl ?_
    exact sn9_dropLast_b17 cx  hres
set_option maxRecDepth 20000 in
theorem mt9_dropLast {l : Launch} {M M' : am_Mem} {r0 : Nat} (h : fn9_dropLast M r0 = some ((), M')) : am_Met l yX9_dropLast cX9_dropLast 1 none rm9_dropLast 0 0 [.inr (.inr (.inl r0))] M none M' := am_mk (by decide) (Nat.le_of_ble_eq_true rfl) (fun G cx => (sn9_dropLast_b0 cx h))
-- SquareCuts$Shelf.copyFrom
def fn9_copyFrom_b15B (N : Nat) (k15 : Nat → Nat → Int32 → am_Mem → Option (Unit × am_Mem)) (r0 : Nat) (r1 : Nat) (x2 : Int32) (M : am_Mem) : Option (Unit × am_Mem) :=
  am_ck (am_k M r0 9) (if (am_I M r0 1) ≤ x2 then some ((), M) else am_ck (am_k M r1 9) (am_ck (am_k M (am_R M r1 0) 18) (am_ck (am_in x2 (am_L M (am_R M r1 0))) (am_ck (am_k M (am_R M r0 0) 18) (am_ck (am_in x2 (am_L M (am_R M r0 0))) (am_ck (am_k M (am_R M (am_R M r1 0) x2.toNatClampNeg) 10) (k15 r0 r1 (x2 + (1 : Int32)) (am_wR M (am_R M r0 0) x2.toNatClampNeg (am_R M (am_R M r1 0) x2.toNatClampNeg)))))))))
def fn9_copyFrom_b15 (N : Nat)  : Nat → Nat → Nat → Int32 → am_Mem → Option (Unit × am_Mem)
  | 0 => fun _ _ _ _ => none
  | i + 1 => fn9_copyFrom_b15B N (fn9_copyFrom_b15 N  i)
def fn9_copyFrom_b0 (N : Nat)  (r0 : Nat) (r1 : Nat) (M : am_Mem) : Option (Unit × am_Mem) :=
  am_ck (am_k M r1 9) (am_ck (am_k M r0 9) (fn9_copyFrom_b15 N  N r0 r1 (0 : Int32) (am_wI (am_wI M r0 1 (am_I M r1 1)) r0 2 (1 : Int32))))
def fn9_copyFrom (N : Nat) (M : am_Mem) (r0 : Nat) (r1 : Nat) : Option (Unit × am_Mem) := fn9_copyFrom_b0 N r0 r1 M
def rm9_copyFrom : Room := { frames := 0, cells := 0, slots := 0, locals := 0 }
set_option maxRecDepth 20000 in
theorem sn9_copyFrom_b15B {l : Launch} {G : am_G} {M' : am_Mem} {N : Nat} {k15 : Nat → Nat → Int32 → am_Mem → Option (Unit × am_Mem)} (cx : am_Ctx l rm9_copyFrom yX9_copyFrom cX9_copyFrom 3 none none M' 0 0 G) (hk15 : ∀ (r0 : Nat) (r1 : Nat) (x2 : Int32) (M : am_Mem), k15 r0 r1 x2 M = some ((), M') → G 15 [(0, .inr (.inr (.inl r0))), (1, .inr (.inr (.inl r1))), (2, .inl x2)] [] M 0 0) {r0 : Nat} {r1 : Nat} {x2 : Int32} {M : am_Mem} (hres : fn9_copyFrom_b15B N k15 r0 r1 x2 M = some ((), M')) : G 15 [(0, .inr (.inr (.inl r0))), (1, .inr (.inr (.inl r1))), (2, .inl x2)] [] M 0 0 := by
  unfold fn9_copyFrom_b15B at hres
  refine am_iload_n cx 2 dX9_copyFrom_15 rfl ?_
  refine am_aload_n cx 0 dX9_copyFrom_16 rfl ?_
  obtain ⟨q1, hres⟩ := am_ck_some hres
  refine am_getI cx dX9_copyFrom_17 flX9_17 (am_ke q1) ?_
  refine am_icmp_ge cx (tgt := 41) dX9_copyFrom_20 (by decide) (fun h => ?_) (fun h => ?_)
  · have hres := am_ifp h hres
    obtain ⟨-, rfl⟩ := am_fin hres
    exact am_vret cx dX9_copyFrom_41
  · have hres := am_ifn h hres
    refine am_aload_n cx 0 dX9_copyFrom_23 rfl ?_
    refine am_getR cx dX9_copyFrom_24 flX9_11 (am_ke q1) ?_
    refine am_iload_n cx 2 dX9_copyFrom_27 rfl ?_
    refine am_aload_n cx 1 dX9_copyFrom_28 rfl ?_
    obtain ⟨q2, hres⟩ := am_ck_some hres
    refine am_getR cx dX9_copyFrom_29 flX9_11 (am_ke q2) ?_
    refine am_iload_n cx 2 dX9_copyFrom_32 rfl ?_
    obtain ⟨q3, hres⟩ := am_ck_some hres
    obtain ⟨q4, hres⟩ := am_ck_some hres
    refine am_aald18 cx dX9_copyFrom_33 (am_ke q3) q4 ?_
    obtain ⟨q5, hres⟩ := am_ck_some hres
    obtain ⟨q6, hres⟩ := am_ck_some hres
    obtain ⟨q7, hres⟩ := am_ck_some hres
    refine am_aast18 cx dX9_copyFrom_34 (am_ke q5) q6 (am_ke q7) ?_
    refine am_iincw cx (lv' := [(0, .inr (.inr (.inl r0))), (1, .inr (.inr (.inl r1))), (2, .inl (x2 + (1 : Int32)))]) (w := (1 : Int32)) 2 dX9_copyFrom_35 (by decide) rfl (Nat.le_of_ble_eq_true rfl) rfl ?_
    refine am_goto cx (tgt := 15) dX9_copyFrom_38 (by decide) ?_
    exact hk15 _ _ _ _ hres
set_option maxRecDepth 20000 in
theorem sn9_copyFrom_b15 {l : Launch} {G : am_G} {M' : am_Mem} {N : Nat}  (cx : am_Ctx l rm9_copyFrom yX9_copyFrom cX9_copyFrom 3 none none M' 0 0 G)  (i : Nat) : ∀ (r0 : Nat) (r1 : Nat) (x2 : Int32) (M : am_Mem), fn9_copyFrom_b15 N  i r0 r1 x2 M = some ((), M') → G 15 [(0, .inr (.inr (.inl r0))), (1, .inr (.inr (.inl r1))), (2, .inl x2)] [] M 0 0 := by
  induction i with
  | zero => intro r0 r1 x2 M hres; exact am_no hres
  | succ i ih => intro r0 r1 x2 M hres; exact sn9_copyFrom_b15B cx ih hres
set_option maxRecDepth 20000 in
theorem sn9_copyFrom_b0 {l : Launch} {G : am_G} {M' : am_Mem} {N : Nat}  (cx : am_Ctx l rm9_copyFrom yX9_copyFrom cX9_copyFrom 3 none none M' 0 0 G)  {r0 : Nat} {r1 : Nat} {M : am_Mem} (hres : fn9_copyFrom_b0 N  r0 r1 M = some ((), M')) : G 0 [(0, .inr (.inr (.inl r0))), (1, .inr (.inr (.inl r1)))] [] M 0 0 := by
  unfold fn9_copyFrom_b0 at hres
  refine am_aload_n cx 0 dX9_copyFrom_0 rfl ?_
  refine am_aload_n cx 1 dX9_copyFrom_1 rfl ?_
  obtain ⟨q1, hres⟩ := am_ck_some hres
  refine am_getI cx dX9_copyFrom_2 flX9_17 (am_ke q1) ?_
  obtain ⟨q2, hres⟩ := am_ck_some hres
  refine am_putI cx dX9_copyFrom_5 fpX9_17 (fun h => by cases h) (am_ke q2) ?_
  refine am_aload_n cx 0 dX9_copyFrom_8 rfl ?_
  refine am_iconst cx (v := (1 : Int32)) dX9_copyFrom_9 (by decide) ?_
  refine am_putZ cx dX9_copyFrom_10 fpX9_21 (fun h => by cases h) rfl (am_ke q2) ?_
  refine am_iconst cx (v := (0 : Int32)) dX9_copyFrom_13 (by decide) ?_
  refine am_istore_n cx (lv' := [(0, .inr (.inr (.inl r0))), (1, .inr (.inr (.inl r1))), (2, .inl (0 : Int32))]) dX9_copyFrom_14 (Nat.le_of_ble_eq_true rfl) rfl ?_
  exact sn9_copyFrom_b15 cx  N _ _ _ _ hres
set_option maxRecDepth 20000 in
theorem mt9_copyFrom {l : Launch} {M M' : am_Mem} {N : Nat} {r0 : Nat} {r1 : Nat} (h : fn9_copyFrom N M r0 r1 = some ((), M')) : am_Met l yX9_copyFrom cX9_copyFrom 3 none rm9_copyFrom 0 0 [.inr (.inr (.inl r0)), .inr (.inr (.inl r1))] M none M' := am_mk (by decide) (Nat.le_of_ble_eq_true rfl) (fun G cx => (sn9_copyFrom_b0 cx h))
-- SquareCuts$Shelf.find
def fn9_find_b22  (c0 : Nat) (M : am_Mem) : Option (Nat × am_Mem) :=
  some (c0, M)
def fn9_find_b12   (M : am_Mem) : Option (Nat × am_Mem) :=
  fn9_find_b22  0 M
def fn9_find_b0  (r0 : Nat) (x1 : Int32) (M : am_Mem) : Option (Nat × am_Mem) :=
  if x1 < 0 then fn9_find_b12   M else am_ck (am_k M r0 9) (if x1 < (am_I M r0 1) then am_ck (am_k M (am_R M r0 0) 18) (am_ck (am_in x1 (am_L M (am_R M r0 0))) (fn9_find_b22  (am_R M (am_R M r0 0) x1.toNatClampNeg) M)) else fn9_find_b12   M)
def fn9_find (M : am_Mem) (r0 : Nat) (x1 : Int32) : Option (Nat × am_Mem) := fn9_find_b0  r0 x1 M
def rm9_find : Room := { frames := 0, cells := 0, slots := 0, locals := 0 }
set_option maxRecDepth 20000 in
theorem sn9_find_b22 {l : Launch} {G : am_G} {v : Nat} {M' : am_Mem}  (cx : am_Ctx l rm9_find yX9_find cX9_find 2 (some (.object "SquareCuts$Tiling")) (some (.inr (.inr (.inl v)))) M' 0 0 G)  {c0 : Nat} {M : am_Mem} (hres : fn9_find_b22  c0 M = some (v, M')) : G 22 [] [.inr (.inr (.inl c0))] M 0 0 := by
  unfold fn9_find_b22 at hres
  obtain ⟨rfl, rfl⟩ := am_fin hres
  exact am_aret cx dX9_find_22
set_option maxRecDepth 20000 in
theorem sn9_find_b12 {l : Launch} {G : am_G} {v : Nat} {M' : am_Mem}  (cx : am_Ctx l rm9_find yX9_find cX9_find 2 (some (.object "SquareCuts$Tiling")) (some (.inr (.inr (.inl v)))) M' 0 0 G)   {M : am_Mem} (hres : fn9_find_b12   M = some (v, M')) : G 12 [] [] M 0 0 := by
  unfold fn9_find_b12 at hres
  refine am_null cx dX9_find_12 ?_
  refine am_goto cx (tgt := 22) dX9_find_13 (by decide) ?_
  exact sn9_find_b22 cx  hres
set_option maxRecDepth 20000 in
theorem sn9_find_b0 {l : Launch} {G : am_G} {v : Nat} {M' : am_Mem}  (cx : am_Ctx l rm9_find yX9_find cX9_find 2 (some (.object "SquareCuts$Tiling")) (some (.inr (.inr (.inl v)))) M' 0 0 G)  {r0 : Nat} {x1 : Int32} {M : am_Mem} (hres : fn9_find_b0  r0 x1 M = some (v, M')) : G 0 [(0, .inr (.inr (.inl r0))), (1, .inl x1)] [] M 0 0 := by
  unfold fn9_find_b0 at hres
  refine am_iload_n cx 1 dX9_find_0 rfl ?_
  refine am_if_lt cx (tgt := 12) dX9_find_1 (by decide) (fun h => ?_) (fun h => ?_)
  · have hres := am_ifp h hres
    refine am_sub cx [] rfl ?_
    exact sn9_find_b12 cx  hres
  · have hres := am_ifn h hres
    refine am_iload_n cx 1 dX9_find_4 rfl ?_
    refine am_aload_n cx 0 dX9_find_5 rfl ?_
    obtain ⟨q1, hres⟩ := am_ck_some hres
    refine am_getI cx dX9_find_6 flX9_17 (am_ke q1) ?_
    refine am_icmp_lt cx (tgt := 16) dX9_find_9 (by decide) (fun h => ?_) (fun h => ?_)
    · have hres := am_ifp h hres
      refine am_aload_n cx 0 dX9_find_16 rfl ?_
      refine am_getR cx dX9_find_17 flX9_11 (am_ke q1) ?_
      refine am_iload_n cx 1 dX9_find_20 rfl ?_
      obtain ⟨q2, hres⟩ := am_ck_some hres
      obtain ⟨q3, hres⟩ := am_ck_some hres
      refine am_aald18 cx dX9_find_21 (am_ke q2) q3 ?_
      refine am_sub cx [] rfl ?_
      exact sn9_find_b22 cx  hres
    · have hres := am_ifn h hres
      refine am_sub cx [] rfl ?_
      exact sn9_find_b12 cx  hres
set_option maxRecDepth 20000 in
theorem mt9_find {l : Launch} {v : Nat} {M M' : am_Mem} {r0 : Nat} {x1 : Int32} (h : fn9_find M r0 x1 = some (v, M')) : am_Met l yX9_find cX9_find 2 (some (.object "SquareCuts$Tiling")) rm9_find 0 0 [.inr (.inr (.inl r0)), .inl x1] M (some (.inr (.inr (.inl v)))) M' := am_mk (by decide) (Nat.le_of_ble_eq_true rfl) (fun G cx => (sn9_find_b0 cx h))
-- SquareCuts$Shelf.failing
def fn9_failing_b38 (N : Nat) (k4 : Nat → Int32 → Int32 → am_Mem → Option (Int32 × am_Mem)) (r0 : Nat) (x1 : Int32) (x2 : Int32) (M : am_Mem) : Option (Int32 × am_Mem) :=
  k4 r0 x1 (x2 + (1 : Int32)) M
def fn9_failing_b36 (N : Nat) (k4 : Nat → Int32 → Int32 → am_Mem → Option (Int32 × am_Mem)) (a0 : Int32) (a1 : Int32) (r0 : Nat) (x2 : Int32) (M : am_Mem) : Option (Int32 × am_Mem) :=
  fn9_failing_b38 N k4 r0 (a0 + a1) x2 M
def fn9_failing_b35 (N : Nat) (k4 : Nat → Int32 → Int32 → am_Mem → Option (Int32 × am_Mem)) (a0 : Int32) (r0 : Nat) (x2 : Int32) (M : am_Mem) : Option (Int32 × am_Mem) :=
  fn9_failing_b36 N k4 a0 (0 : Int32) r0 x2 M
def fn9_failing_b19 (N : Nat) (k4 : Nat → Int32 → Int32 → am_Mem → Option (Int32 × am_Mem)) (r0 : Nat) (x1 : Int32) (x2 : Int32) (r3 : Nat) (M : am_Mem) : Option (Int32 × am_Mem) :=
  if r3 = 0 then fn9_failing_b35 N k4 x1 r0 x2 M else am_ck (am_k M r3 10) (if (am_I M r3 1) = 0 then fn9_failing_b35 N k4 x1 r0 x2 M else fn9_failing_b36 N k4 x1 (1 : Int32) r0 x2 M)
def fn9_failing_b4B (N : Nat) (k4 : Nat → Int32 → Int32 → am_Mem → Option (Int32 × am_Mem)) (r0 : Nat) (x1 : Int32) (x2 : Int32) (M : am_Mem) : Option (Int32 × am_Mem) :=
  am_ck (am_k M r0 9) (if (am_I M r0 1) ≤ x2 then some (x1, M) else am_ck (am_k M (am_R M r0 0) 18) (am_ck (am_in x2 (am_L M (am_R M r0 0))) (fn9_failing_b19 N k4 r0 x1 x2 (am_R M (am_R M r0 0) x2.toNatClampNeg) M)))
def fn9_failing_b4 (N : Nat)  : Nat → Nat → Int32 → Int32 → am_Mem → Option (Int32 × am_Mem)
  | 0 => fun _ _ _ _ => none
  | i + 1 => fn9_failing_b4B N (fn9_failing_b4 N  i)
def fn9_failing_b0 (N : Nat)  (r0 : Nat) (M : am_Mem) : Option (Int32 × am_Mem) :=
  fn9_failing_b4 N  N r0 (0 : Int32) (0 : Int32) M
def fn9_failing (N : Nat) (M : am_Mem) (r0 : Nat) : Option (Int32 × am_Mem) := fn9_failing_b0 N r0 M
def rm9_failing : Room := { frames := 0, cells := 0, slots := 0, locals := 0 }
set_option maxRecDepth 20000 in
theorem sn9_failing_b38 {l : Launch} {G : am_G} {v : Int32} {M' : am_Mem} {N : Nat} {k4 : Nat → Int32 → Int32 → am_Mem → Option (Int32 × am_Mem)} (cx : am_Ctx l rm9_failing yX9_failing cX9_failing 4 (some .int) (some (.inl v)) M' 0 0 G) (hk4 : ∀ (r0 : Nat) (x1 : Int32) (x2 : Int32) (M : am_Mem), k4 r0 x1 x2 M = some (v, M') → G 4 [(0, .inr (.inr (.inl r0))), (1, .inl x1), (2, .inl x2)] [] M 0 0) {r0 : Nat} {x1 : Int32} {x2 : Int32} {M : am_Mem} (hres : fn9_failing_b38 N k4 r0 x1 x2 M = some (v, M')) : G 38 [(0, .inr (.inr (.inl r0))), (1, .inl x1), (2, .inl x2)] [] M 0 0 := by
  unfold fn9_failing_b38 at hres
  refine am_iincw cx (lv' := [(0, .inr (.inr (.inl r0))), (1, .inl x1), (2, .inl (x2 + (1 : Int32)))]) (w := (1 : Int32)) 2 dX9_failing_38 (by decide) rfl (Nat.le_of_ble_eq_true rfl) rfl ?_
  refine am_goto cx (tgt := 4) dX9_failing_41 (by decide) ?_
  exact hk4 _ _ _ _ hres
set_option maxRecDepth 20000 in
theorem sn9_failing_b36 {l : Launch} {G : am_G} {v : Int32} {M' : am_Mem} {N : Nat} {k4 : Nat → Int32 → Int32 → am_Mem → Option (Int32 × am_Mem)} (cx : am_Ctx l rm9_failing yX9_failing cX9_failing 4 (some .int) (some (.inl v)) M' 0 0 G) (hk4 : ∀ (r0 : Nat) (x1 : Int32) (x2 : Int32) (M : am_Mem), k4 r0 x1 x2 M = some (v, M') → G 4 [(0, .inr (.inr (.inl r0))), (1, .inl x1), (2, .inl x2)] [] M 0 0) {a0 : Int32} {a1 : Int32} {r0 : Nat} {x2 : Int32} {M : am_Mem} (hres : fn9_failing_b36 N k4 a0 a1 r0 x2 M = some (v, M')) : G 36 [(0, .inr (.inr (.inl r0))), (2, .inl x2)] [.inl a1, .inl a0] M 0 0 := by
  unfold fn9_failing_b36 at hres
  refine am_iadd cx dX9_failing_36 ?_
  refine am_istore_n cx (lv' := [(0, .inr (.inr (.inl r0))), (1, .inl (a0 + a1)), (2, .inl x2)]) dX9_failing_37 (Nat.le_of_ble_eq_true rfl) rfl ?_
  exact sn9_failing_b38 cx hk4 hres
set_option maxRecDepth 20000 in
theorem sn9_failing_b35 {l : Launch} {G : am_G} {v : Int32} {M' : am_Mem} {N : Nat} {k4 : Nat → Int32 → Int32 → am_Mem → Option (Int32 × am_Mem)} (cx : am_Ctx l rm9_failing yX9_failing cX9_failing 4 (some .int) (some (.inl v)) M' 0 0 G) (hk4 : ∀ (r0 : Nat) (x1 : Int32) (x2 : Int32) (M : am_Mem), k4 r0 x1 x2 M = some (v, M') → G 4 [(0, .inr (.inr (.inl r0))), (1, .inl x1), (2, .inl x2)] [] M 0 0) {a0 : Int32} {r0 : Nat} {x2 : Int32} {M : am_Mem} (hres : fn9_failing_b35 N k4 a0 r0 x2 M = some (v, M')) : G 35 [(0, .inr (.inr (.inl r0))), (2, .inl x2)] [.inl a0] M 0 0 := by
  unfold fn9_failing_b35 at hres
  refine am_iconst cx (v := (0 : Int32)) dX9_failing_35 (by decide) ?_
  exact sn9_failing_b36 cx hk4 hres
set_option maxRecDepth 20000 in
theorem sn9_failing_b19 {l : Launch} {G : am_G} {v : Int32} {M' : am_Mem} {N : Nat} {k4 : Nat → Int32 → Int32 → am_Mem → Option (Int32 × am_Mem)} (cx : am_Ctx l rm9_failing yX9_failing cX9_failing 4 (some .int) (some (.inl v)) M' 0 0 G) (hk4 : ∀ (r0 : Nat) (x1 : Int32) (x2 : Int32) (M : am_Mem), k4 r0 x1 x2 M = some (v, M') → G 4 [(0, .inr (.inr (.inl r0))), (1, .inl x1), (2, .inl x2)] [] M 0 0) {r0 : Nat} {x1 : Int32} {x2 : Int32} {r3 : Nat} {M : am_Mem} (hres : fn9_failing_b19 N k4 r0 x1 x2 r3 M = some (v, M')) : G 19 [(0, .inr (.inr (.inl r0))), (1, .inl x1), (2, .inl x2), (3, .inr (.inr (.inl r3)))] [] M 0 0 := by
  unfold fn9_failing_b19 at hres
  refine am_iload_n cx 1 dX9_failing_19 rfl ?_
  refine am_aload_n cx 3 dX9_failing_20 rfl ?_
  refine am_ifnull cx (tgt := 35) dX9_failing_21 (by decide) (fun h => ?_) (fun h => ?_)
  · have hres := am_ifp h hres
    refine am_sub cx [0, 2] rfl ?_
    exact sn9_failing_b35 cx hk4 hres
  · have hres := am_ifn h hres
    refine am_aload_n cx 3 dX9_failing_24 rfl ?_
    obtain ⟨q1, hres⟩ := am_ck_some hres
    refine am_getI cx dX9_failing_25 flX9_25 (am_ke q1) ?_
    refine am_if_eq cx (tgt := 35) dX9_failing_28 (by decide) (fun h => ?_) (fun h => ?_)
    · have hres := am_ifp h hres
      refine am_sub cx [0, 2] rfl ?_
      exact sn9_failing_b35 cx hk4 hres
    · have hres := am_ifn h hres
      refine am_iconst cx (v := (1 : Int32)) dX9_failing_31 (by decide) ?_
      refine am_goto cx (tgt := 36) dX9_failing_32 (by decide) ?_
      refine am_sub cx [0, 2] rfl ?_
      exact sn9_failing_b36 cx hk4 hres
set_option maxRecDepth 20000 in
theorem sn9_failing_b4B {l : Launch} {G : am_G} {v : Int32} {M' : am_Mem} {N : Nat} {k4 : Nat → Int32 → Int32 → am_Mem → Option (Int32 × am_Mem)} (cx : am_Ctx l rm9_failing yX9_failing cX9_failing 4 (some .int) (some (.inl v)) M' 0 0 G) (hk4 : ∀ (r0 : Nat) (x1 : Int32) (x2 : Int32) (M : am_Mem), k4 r0 x1 x2 M = some (v, M') → G 4 [(0, .inr (.inr (.inl r0))), (1, .inl x1), (2, .inl x2)] [] M 0 0) {r0 : Nat} {x1 : Int32} {x2 : Int32} {M : am_Mem} (hres : fn9_failing_b4B N k4 r0 x1 x2 M = some (v, M')) : G 4 [(0, .inr (.inr (.inl r0))), (1, .inl x1), (2, .inl x2)] [] M 0 0 := by
  unfold fn9_failing_b4B at hres
  refine am_iload_n cx 2 dX9_failing_4 rfl ?_
  refine am_aload_n cx 0 dX9_failing_5 rfl ?_
  obtain ⟨q1, hres⟩ := am_ck_some hres
  refine am_getI cx dX9_failing_6 flX9_17 (am_ke q1) ?_
  refine am_icmp_ge cx (tgt := 44) dX9_failing_9 (by decide) (fun h => ?_) (fun h => ?_)
  · have hres := am_ifp h hres
    refine am_iload_n cx 1 dX9_failing_44 rfl ?_
    obtain ⟨rfl, rfl⟩ := am_fin hres
    exact am_iret cx dX9_failing_45
  · have hres := am_ifn h hres
    refine am_aload_n cx 0 dX9_failing_12 rfl ?_
    refine am_getR cx dX9_failing_13 flX9_11 (am_ke q1) ?_
    refine am_iload_n cx 2 dX9_failing_16 rfl ?_
    obtain ⟨q2, hres⟩ := am_ck_some hres
    obtain ⟨q3, hres⟩ := am_ck_some hres
    refine am_aald18 cx dX9_failing_17 (am_ke q2) q3 ?_
    refine am_astore_n cx (lv' := [(0, .inr (.inr (.inl r0))), (1, .inl x1), (2, .inl x2), (3, .inr (.inr (.inl (am_R M (am_R M r0 0) x2.toNatClampNeg))))]) dX9_failing_18 (Nat.le_of_ble_eq_true rfl) rfl ?_
    exact sn9_failing_b19 cx hk4 hres
set_option maxRecDepth 20000 in
theorem sn9_failing_b4 {l : Launch} {G : am_G} {v : Int32} {M' : am_Mem} {N : Nat}  (cx : am_Ctx l rm9_failing yX9_failing cX9_failing 4 (some .int) (some (.inl v)) M' 0 0 G)  (i : Nat) : ∀ (r0 : Nat) (x1 : Int32) (x2 : Int32) (M : am_Mem), fn9_failing_b4 N  i r0 x1 x2 M = some (v, M') → G 4 [(0, .inr (.inr (.inl r0))), (1, .inl x1), (2, .inl x2)] [] M 0 0 := by
  induction i with
  | zero => intro r0 x1 x2 M hres; exact am_no hres
  | succ i ih => intro r0 x1 x2 M hres; exact sn9_failing_b4B cx ih hres
set_option maxRecDepth 20000 in
theorem sn9_failing_b0 {l : Launch} {G : am_G} {v : Int32} {M' : am_Mem} {N : Nat}  (cx : am_Ctx l rm9_failing yX9_failing cX9_failing 4 (some .int) (some (.inl v)) M' 0 0 G)  {r0 : Nat} {M : am_Mem} (hres : fn9_failing_b0 N  r0 M = some (v, M')) : G 0 [(0, .inr (.inr (.inl r0)))] [] M 0 0 := by
  unfold fn9_failing_b0 at hres
  refine am_iconst cx (v := (0 : Int32)) dX9_failing_0 (by decide) ?_
  refine am_istore_n cx (lv' := [(0, .inr (.inr (.inl r0))), (1, .inl (0 : Int32))]) dX9_failing_1 (Nat.le_of_ble_eq_true rfl) rfl ?_
  refine am_iconst cx (v := (0 : Int32)) dX9_failing_2 (by decide) ?_
  refine am_istore_n cx (lv' := [(0, .inr (.inr (.inl r0))), (1, .inl (0 : Int32)), (2, .inl (0 : Int32))]) dX9_failing_3 (Nat.le_of_ble_eq_true rfl) rfl ?_
  exact sn9_failing_b4 cx  N _ _ _ _ hres
set_option maxRecDepth 20000 in
theorem mt9_failing {l : Launch} {v : Int32} {M M' : am_Mem} {N : Nat} {r0 : Nat} (h : fn9_failing N M r0 = some (v, M')) : am_Met l yX9_failing cX9_failing 4 (some .int) rm9_failing 0 0 [.inr (.inr (.inl r0))] M (some (.inl v)) M' := am_mk (by decide) (Nat.le_of_ble_eq_true rfl) (fun G cx => (sn9_failing_b0 cx h))
-- SquareCuts$Tiling.<init>
def fn10_init_b180 (N : Nat)   (M : am_Mem) : Option (Unit × am_Mem) :=
  some ((), M)
def fn10_init_b119B (N : Nat) (k119 : Nat → Nat → Int32 → am_Mem → Option (Unit × am_Mem)) (r0 : Nat) (r2 : Nat) (x5 : Int32) (M : am_Mem) : Option (Unit × am_Mem) :=
  am_ck (am_k M r0 10) (if (am_I M r0 4) ≤ x5 then fn10_init_b180 N   M else if r2 = 0 then fn10_init_b180 N   M else am_ck (am_k M r2 0) (am_ck (am_k M (am_R M r2 0) 14) (am_ck (am_in x5 (am_L M (am_R M r2 0))) (am_ck (am_k M (am_R M r0 7) 14) (am_ck (am_in x5 (am_L M (am_R M r0 7))) (am_ck (am_k M (am_R M r2 1) 14) (am_ck (am_in x5 (am_L M (am_R M r2 1))) (am_ck (am_k M (am_R M r0 8) 14) (am_ck (am_in x5 (am_L M (am_R M r0 8))) (am_ck (am_k M (am_R M r2 2) 14) (am_ck (am_in x5 (am_L M (am_R M r2 2))) (am_ck (am_k M (am_R M r0 9) 14) (am_ck (am_in x5 (am_L M (am_R M r0 9))) (k119 r0 r2 (x5 + (1 : Int32)) (am_wI (am_wI (am_wI M (am_R M r0 7) x5.toNatClampNeg (am_I M (am_R M r2 0) x5.toNatClampNeg)) (am_R M r0 8) x5.toNatClampNeg (am_I (am_wI M (am_R M r0 7) x5.toNatClampNeg (am_I M (am_R M r2 0) x5.toNatClampNeg)) (am_R M r2 1) x5.toNatClampNeg)) (am_R M r0 9) x5.toNatClampNeg (am_I (am_wI (am_wI M (am_R M r0 7) x5.toNatClampNeg (am_I M (am_R M r2 0) x5.toNatClampNeg)) (am_R M r0 8) x5.toNatClampNeg (am_I (am_wI M (am_R M r0 7) x5.toNatClampNeg (am_I M (am_R M r2 0) x5.toNatClampNeg)) (am_R M r2 1) x5.toNatClampNeg)) (am_R M r2 2) x5.toNatClampNeg))))))))))))))))
def fn10_init_b119 (N : Nat)  : Nat → Nat → Nat → Int32 → am_Mem → Option (Unit × am_Mem)
  | 0 => fun _ _ _ _ => none
  | i + 1 => fn10_init_b119B N (fn10_init_b119 N  i)
def fn10_init_b116 (N : Nat)  (r0 : Nat) (r2 : Nat) (M : am_Mem) : Option (Unit × am_Mem) :=
  fn10_init_b119 N  N r0 r2 (0 : Int32) M
def fn10_init_b106 (N : Nat)  (r0 : Nat) (r2 : Nat) (M : am_Mem) : Option (Unit × am_Mem) :=
  am_ck (am_k M r0 10) (am_ck (am_cnt (am_I M r0 4) 40) (am_ck (am_k (am_new M 14 (am_I M r0 4).toNatClampNeg) r0 10) (fn10_init_b116 N  r0 r2 (am_wR (am_new M 14 (am_I M r0 4).toNatClampNeg) r0 9 (am_n M + 1)))))
def fn10_init_b96 (N : Nat)  (r0 : Nat) (r2 : Nat) (M : am_Mem) : Option (Unit × am_Mem) :=
  am_ck (am_k M r0 10) (am_ck (am_cnt (am_I M r0 4) 40) (am_ck (am_k (am_new M 14 (am_I M r0 4).toNatClampNeg) r0 10) (fn10_init_b106 N  r0 r2 (am_wR (am_new M 14 (am_I M r0 4).toNatClampNeg) r0 8 (am_n M + 1)))))
def fn10_init_b86 (N : Nat)  (r0 : Nat) (r2 : Nat) (M : am_Mem) : Option (Unit × am_Mem) :=
  am_ck (am_k M r0 10) (am_ck (am_cnt (am_I M r0 4) 40) (am_ck (am_k (am_new M 14 (am_I M r0 4).toNatClampNeg) r0 10) (fn10_init_b96 N  r0 r2 (am_wR (am_new M 14 (am_I M r0 4).toNatClampNeg) r0 7 (am_n M + 1)))))
def fn10_init_b83 (N : Nat)  (c0 : Nat) (a1 : Int32) (r0 : Nat) (r2 : Nat) (M : am_Mem) : Option (Unit × am_Mem) :=
  am_ck (am_k M c0 10) (fn10_init_b86 N  r0 r2 (am_wI M c0 6 a1))
def fn10_init_b70 (N : Nat)  (r0 : Nat) (r2 : Nat) (M : am_Mem) : Option (Unit × am_Mem) :=
  if r2 = 0 then fn10_init_b83 N  r0 (0 : Int32) r0 r2 M else am_ck (am_k M r2 0) (fn10_init_b83 N  r0 (am_I M r2 5) r0 r2 M)
def fn10_init_b67 (N : Nat)  (c0 : Nat) (a1 : Int32) (r0 : Nat) (r2 : Nat) (M : am_Mem) : Option (Unit × am_Mem) :=
  am_ck (am_k M c0 10) (fn10_init_b70 N  r0 r2 (am_wI M c0 5 a1))
def fn10_init_b54 (N : Nat)  (r0 : Nat) (r2 : Nat) (M : am_Mem) : Option (Unit × am_Mem) :=
  if r2 = 0 then fn10_init_b67 N  r0 (0 : Int32) r0 r2 M else am_ck (am_k M r2 0) (fn10_init_b67 N  r0 (am_I M r2 4) r0 r2 M)
def fn10_init_b51 (N : Nat)  (c0 : Nat) (a1 : Int32) (r0 : Nat) (r2 : Nat) (M : am_Mem) : Option (Unit × am_Mem) :=
  am_ck (am_k M c0 10) (fn10_init_b54 N  r0 r2 (am_wI M c0 4 a1))
def fn10_init_b38 (N : Nat)  (r0 : Nat) (r2 : Nat) (M : am_Mem) : Option (Unit × am_Mem) :=
  if r2 = 0 then fn10_init_b51 N  r0 (0 : Int32) r0 r2 M else am_ck (am_k M r2 0) (fn10_init_b51 N  r0 (am_I M r2 3) r0 r2 M)
def fn10_init_b35 (N : Nat)  (c0 : Nat) (a1 : Int32) (r0 : Nat) (r2 : Nat) (M : am_Mem) : Option (Unit × am_Mem) :=
  am_ck (a1 == 0 || a1 == 1) (am_ck (am_k M c0 10) (fn10_init_b38 N  r0 r2 (am_wI M c0 1 a1)))
def fn10_init_b25 (N : Nat)  (r0 : Nat) (r2 : Nat) (M : am_Mem) : Option (Unit × am_Mem) :=
  if r2 = 0 then fn10_init_b35 N  r0 (1 : Int32) r0 r2 M else fn10_init_b35 N  r0 (0 : Int32) r0 r2 M
def fn10_init_b19 (N : Nat)  (r0 : Nat) (r2 : Nat) (r4 : Nat) (M : am_Mem) : Option (Unit × am_Mem) :=
  am_ck (am_k M r0 10) (fn10_init_b25 N  r0 r2 (am_wR M r0 3 r4))
def fn10_init_b14 (N : Nat)  (r0 : Nat) (r2 : Nat) (x3 : Int32) (r4 : Nat) (M : am_Mem) : Option (Unit × am_Mem) :=
  am_ck (am_k M r0 10) (fn10_init_b19 N  r0 r2 r4 (am_wI M r0 2 x3))
def fn10_init_b9 (N : Nat)  (r0 : Nat) (x1 : Int32) (r2 : Nat) (x3 : Int32) (r4 : Nat) (M : am_Mem) : Option (Unit × am_Mem) :=
  am_ck (am_k M r0 10) (fn10_init_b14 N  r0 r2 x3 r4 (am_wI M r0 0 x1))
def fn10_init_b0 (N : Nat)  (r0 : Nat) (x1 : Int32) (r2 : Nat) (x3 : Int32) (r4 : Nat) (M : am_Mem) : Option (Unit × am_Mem) :=
  am_ck (am_k M r0 10) (fn10_init_b9 N  r0 x1 r2 x3 r4 (am_wI M r0 10 (-1 : Int32)))
def fn10_init (N : Nat) (M : am_Mem) (r0 : Nat) (x1 : Int32) (r2 : Nat) (x3 : Int32) (r4 : Nat) : Option (Unit × am_Mem) := fn10_init_b0 N r0 x1 r2 x3 r4 M
def rm10_init : Room := { frames := 1, cells := 3, slots := 120, locals := 20 }
set_option maxRecDepth 20000 in
theorem sn10_init_b180 {l : Launch} {G : am_G} {M' : am_Mem} {N : Nat}  (cx : am_Ctx l rm10_init yX10_init cX10_init 6 none none M' 3 120 G)   {M : am_Mem} (hres : fn10_init_b180 N   M = some ((), M')) : G 180 [] [] M 3 120 := by
  unfold fn10_init_b180 at hres
  obtain ⟨-, rfl⟩ := am_fin hres
  exact am_vret cx dX10_init_180
set_option maxRecDepth 20000 in
theorem sn10_init_b119B {l : Launch} {G : am_G} {M' : am_Mem} {N : Nat} {k119 : Nat → Nat → Int32 → am_Mem → Option (Unit × am_Mem)} (cx : am_Ctx l rm10_init yX10_init cX10_init 6 none none M' 3 120 G) (hk119 : ∀ (r0 : Nat) (r2 : Nat) (x5 : Int32) (M : am_Mem), k119 r0 r2 x5 M = some ((), M') → G 119 [(0, .inr (.inr (.inl r0))), (2, .inr (.inr (.inl r2))), (5, .inl x5)] [] M 3 120) {r0 : Nat} {r2 : Nat} {x5 : Int32} {M : am_Mem} (hres : fn10_init_b119B N k119 r0 r2 x5 M = some ((), M')) : G 119 [(0, .inr (.inr (.inl r0))), (2, .inr (.inr (.inl r2))), (5, .inl x5)] [] M 3 120 := by
  unfold fn10_init_b119B at hres
  refine am_iload cx 2 dX10_init_119 rfl ?_
  refine am_aload_n cx 0 dX10_init_121 rfl ?_
  obtain ⟨q1, hres⟩ := am_ck_some hres
  refine am_getI cx dX10_init_122 flX10_32 (am_ke q1) ?_
  refine am_icmp_ge cx (tgt := 180) dX10_init_125 (by decide) (fun h => ?_) (fun h => ?_)
  · have hres := am_ifp h hres
    refine am_sub cx [] rfl ?_
    exact sn10_init_b180 cx  hres
  · have hres := am_ifn h hres
    refine am_aload_n cx 1 dX10_init_128 rfl ?_
    refine am_ifnull cx (tgt := 180) dX10_init_129 (by decide) (fun h => ?_) (fun h => ?_)
    · have hres := am_ifp h hres
      refine am_sub cx [] rfl ?_
      exact sn10_init_b180 cx  hres
    · have hres := am_ifn h hres
      refine am_aload_n cx 0 dX10_init_132 rfl ?_
      refine am_getR cx dX10_init_133 flX10_41 (am_ke q1) ?_
      refine am_iload cx 2 dX10_init_136 rfl ?_
      refine am_aload_n cx 1 dX10_init_138 rfl ?_
      obtain ⟨q2, hres⟩ := am_ck_some hres
      refine am_getR cx dX10_init_139 flX10_51 (am_ke q2) ?_
      refine am_iload cx 2 dX10_init_142 rfl ?_
      obtain ⟨q3, hres⟩ := am_ck_some hres
      obtain ⟨q4, hres⟩ := am_ck_some hres
      refine am_iald cx dX10_init_144 (am_ke q3) q4 ?_
      obtain ⟨q5, hres⟩ := am_ck_some hres
      obtain ⟨q6, hres⟩ := am_ck_some hres
      refine am_iast cx dX10_init_145 (am_ke q5) q6  ?_
      refine am_aload_n cx 0 dX10_init_146 rfl ?_
      refine am_getR cx dX10_init_147 flX10_45 (am_ke q1) ?_
      refine am_iload cx 2 dX10_init_150 rfl ?_
      refine am_aload_n cx 1 dX10_init_152 rfl ?_
      refine am_getR cx dX10_init_153 flX10_52 (am_ke q2) ?_
      refine am_iload cx 2 dX10_init_156 rfl ?_
      obtain ⟨q7, hres⟩ := am_ck_some hres
      obtain ⟨q8, hres⟩ := am_ck_some hres
      refine am_iald cx dX10_init_158 (am_ke q7) q8 ?_
      obtain ⟨q9, hres⟩ := am_ck_some hres
      obtain ⟨q10, hres⟩ := am_ck_some hres
      refine am_iast cx dX10_init_159 (am_ke q9) q10  ?_
      refine am_aload_n cx 0 dX10_init_160 rfl ?_
      refine am_getR cx dX10_init_161 flX10_48 (am_ke q1) ?_
      refine am_iload cx 2 dX10_init_164 rfl ?_
      refine am_aload_n cx 1 dX10_init_166 rfl ?_
      refine am_getR cx dX10_init_167 flX10_53 (am_ke q2) ?_
      refine am_iload cx 2 dX10_init_170 rfl ?_
      obtain ⟨q11, hres⟩ := am_ck_some hres
      obtain ⟨q12, hres⟩ := am_ck_some hres
      refine am_iald cx dX10_init_172 (am_ke q11) q12 ?_
      obtain ⟨q13, hres⟩ := am_ck_some hres
      obtain ⟨q14, hres⟩ := am_ck_some hres
      refine am_iast cx dX10_init_173 (am_ke q13) q14  ?_
      refine am_iincw cx (lv' := [(0, .inr (.inr (.inl r0))), (2, .inr (.inr (.inl r2))), (5, .inl (x5 + (1 : Int32)))]) (w := (1 : Int32)) 2 dX10_init_174 (by decide) rfl (Nat.le_of_ble_eq_true rfl) rfl ?_
      refine am_goto cx (tgt := 119) dX10_init_177 (by decide) ?_
      exact hk119 _ _ _ _ hres
set_option maxRecDepth 20000 in
theorem sn10_init_b119 {l : Launch} {G : am_G} {M' : am_Mem} {N : Nat}  (cx : am_Ctx l rm10_init yX10_init cX10_init 6 none none M' 3 120 G)  (i : Nat) : ∀ (r0 : Nat) (r2 : Nat) (x5 : Int32) (M : am_Mem), fn10_init_b119 N  i r0 r2 x5 M = some ((), M') → G 119 [(0, .inr (.inr (.inl r0))), (2, .inr (.inr (.inl r2))), (5, .inl x5)] [] M 3 120 := by
  induction i with
  | zero => intro r0 r2 x5 M hres; exact am_no hres
  | succ i ih => intro r0 r2 x5 M hres; exact sn10_init_b119B cx ih hres
set_option maxRecDepth 20000 in
theorem sn10_init_b116 {l : Launch} {G : am_G} {M' : am_Mem} {N : Nat}  (cx : am_Ctx l rm10_init yX10_init cX10_init 6 none none M' 3 120 G)  {r0 : Nat} {r2 : Nat} {M : am_Mem} (hres : fn10_init_b116 N  r0 r2 M = some ((), M')) : G 116 [(0, .inr (.inr (.inl r0))), (2, .inr (.inr (.inl r2)))] [] M 3 120 := by
  unfold fn10_init_b116 at hres
  refine am_iconst cx (v := (0 : Int32)) dX10_init_116 (by decide) ?_
  refine am_istore cx (lv' := [(0, .inr (.inr (.inl r0))), (2, .inr (.inr (.inl r2))), (5, .inl (0 : Int32))]) dX10_init_117 (Nat.le_of_ble_eq_true rfl) rfl ?_
  exact sn10_init_b119 cx  N _ _ _ _ hres
set_option maxRecDepth 20000 in
theorem sn10_init_b106 {l : Launch} {G : am_G} {M' : am_Mem} {N : Nat}  (cx : am_Ctx l rm10_init yX10_init cX10_init 6 none none M' 3 120 G)  {r0 : Nat} {r2 : Nat} {M : am_Mem} (hres : fn10_init_b106 N  r0 r2 M = some ((), M')) : G 106 [(0, .inr (.inr (.inl r0))), (2, .inr (.inr (.inl r2)))] [] M 2 80 := by
  unfold fn10_init_b106 at hres
  refine am_aload_n cx 0 dX10_init_106 rfl ?_
  refine am_aload_n cx 0 dX10_init_107 rfl ?_
  obtain ⟨q1, hres⟩ := am_ck_some hres
  refine am_getI cx dX10_init_108 flX10_32 (am_ke q1) ?_
  obtain ⟨q2, hres⟩ := am_ck_some hres
  refine am_newI cx 40 dX10_init_111 aw_1_90 q2 (Nat.le_of_ble_eq_true rfl) (Nat.le_of_ble_eq_true rfl) (Nat.le_of_ble_eq_true rfl) ?_
  obtain ⟨q3, hres⟩ := am_ck_some hres
  refine am_putR cx dX10_init_113 fpX10_48 (fun _ => rfl) (Or.inr ⟨_, rfl⟩) (am_ke q3) ?_
  exact sn10_init_b116 cx  hres
set_option maxRecDepth 20000 in
theorem sn10_init_b96 {l : Launch} {G : am_G} {M' : am_Mem} {N : Nat}  (cx : am_Ctx l rm10_init yX10_init cX10_init 6 none none M' 3 120 G)  {r0 : Nat} {r2 : Nat} {M : am_Mem} (hres : fn10_init_b96 N  r0 r2 M = some ((), M')) : G 96 [(0, .inr (.inr (.inl r0))), (2, .inr (.inr (.inl r2)))] [] M 1 40 := by
  unfold fn10_init_b96 at hres
  refine am_aload_n cx 0 dX10_init_96 rfl ?_
  refine am_aload_n cx 0 dX10_init_97 rfl ?_
  obtain ⟨q1, hres⟩ := am_ck_some hres
  refine am_getI cx dX10_init_98 flX10_32 (am_ke q1) ?_
  obtain ⟨q2, hres⟩ := am_ck_some hres
  refine am_newI cx 40 dX10_init_101 aw_1_90 q2 (Nat.le_of_ble_eq_true rfl) (Nat.le_of_ble_eq_true rfl) (Nat.le_of_ble_eq_true rfl) ?_
  obtain ⟨q3, hres⟩ := am_ck_some hres
  refine am_putR cx dX10_init_103 fpX10_45 (fun _ => rfl) (Or.inr ⟨_, rfl⟩) (am_ke q3) ?_
  exact sn10_init_b106 cx  hres
set_option maxRecDepth 20000 in
theorem sn10_init_b86 {l : Launch} {G : am_G} {M' : am_Mem} {N : Nat}  (cx : am_Ctx l rm10_init yX10_init cX10_init 6 none none M' 3 120 G)  {r0 : Nat} {r2 : Nat} {M : am_Mem} (hres : fn10_init_b86 N  r0 r2 M = some ((), M')) : G 86 [(0, .inr (.inr (.inl r0))), (2, .inr (.inr (.inl r2)))] [] M 0 0 := by
  unfold fn10_init_b86 at hres
  refine am_aload_n cx 0 dX10_init_86 rfl ?_
  refine am_aload_n cx 0 dX10_init_87 rfl ?_
  obtain ⟨q1, hres⟩ := am_ck_some hres
  refine am_getI cx dX10_init_88 flX10_32 (am_ke q1) ?_
  obtain ⟨q2, hres⟩ := am_ck_some hres
  refine am_newI cx 40 dX10_init_91 aw_1_90 q2 (Nat.le_of_ble_eq_true rfl) (Nat.le_of_ble_eq_true rfl) (Nat.le_of_ble_eq_true rfl) ?_
  obtain ⟨q3, hres⟩ := am_ck_some hres
  refine am_putR cx dX10_init_93 fpX10_41 (fun _ => rfl) (Or.inr ⟨_, rfl⟩) (am_ke q3) ?_
  exact sn10_init_b96 cx  hres
set_option maxRecDepth 20000 in
theorem sn10_init_b83 {l : Launch} {G : am_G} {M' : am_Mem} {N : Nat}  (cx : am_Ctx l rm10_init yX10_init cX10_init 6 none none M' 3 120 G)  {c0 : Nat} {a1 : Int32} {r0 : Nat} {r2 : Nat} {M : am_Mem} (hres : fn10_init_b83 N  c0 a1 r0 r2 M = some ((), M')) : G 83 [(0, .inr (.inr (.inl r0))), (2, .inr (.inr (.inl r2)))] [.inl a1, .inr (.inr (.inl c0))] M 0 0 := by
  unfold fn10_init_b83 at hres
  obtain ⟨q1, hres⟩ := am_ck_some hres
  refine am_putI cx dX10_init_83 fpX10_40 (fun _ => rfl) (am_ke q1) ?_
  exact sn10_init_b86 cx  hres
set_option maxRecDepth 20000 in
theorem sn10_init_b70 {l : Launch} {G : am_G} {M' : am_Mem} {N : Nat}  (cx : am_Ctx l rm10_init yX10_init cX10_init 6 none none M' 3 120 G)  {r0 : Nat} {r2 : Nat} {M : am_Mem} (hres : fn10_init_b70 N  r0 r2 M = some ((), M')) : G 70 [(0, .inr (.inr (.inl r0))), (2, .inr (.inr (.inl r2)))] [] M 0 0 := by
  unfold fn10_init_b70 at hres
  refine am_aload_n cx 0 dX10_init_70 rfl ?_
  refine am_aload_n cx 1 dX10_init_71 rfl ?_
  refine am_ifnonnull cx (tgt := 79) dX10_init_72 (by decide) (fun h => ?_) (fun h => ?_)
  · have hres := am_ifn h hres
    refine am_aload_n cx 1 dX10_init_79 rfl ?_
    obtain ⟨q1, hres⟩ := am_ck_some hres
    refine am_getI cx dX10_init_80 flX10_37 (am_ke q1) ?_
    exact sn10_init_b83 cx  hres
  · have hres := am_ifp h hres
    refine am_iconst cx (v := (0 : Int32)) dX10_init_75 (by decide) ?_
    refine am_goto cx (tgt := 83) dX10_init_76 (by decide) ?_
    exact sn10_init_b83 cx  hres
set_option maxRecDepth 20000 in
theorem sn10_init_b67 {l : Launch} {G : am_G} {M' : am_Mem} {N : Nat}  (cx : am_Ctx l rm10_init yX10_init cX10_init 6 none none M' 3 120 G)  {c0 : Nat} {a1 : Int32} {r0 : Nat} {r2 : Nat} {M : am_Mem} (hres : fn10_init_b67 N  c0 a1 r0 r2 M = some ((), M')) : G 67 [(0, .inr (.inr (.inl r0))), (2, .inr (.inr (.inl r2)))] [.inl a1, .inr (.inr (.inl c0))] M 0 0 := by
  unfold fn10_init_b67 at hres
  obtain ⟨q1, hres⟩ := am_ck_some hres
  refine am_putI cx dX10_init_67 fpX10_36 (fun _ => rfl) (am_ke q1) ?_
  exact sn10_init_b70 cx  hres
set_option maxRecDepth 20000 in
theorem sn10_init_b54 {l : Launch} {G : am_G} {M' : am_Mem} {N : Nat}  (cx : am_Ctx l rm10_init yX10_init cX10_init 6 none none M' 3 120 G)  {r0 : Nat} {r2 : Nat} {M : am_Mem} (hres : fn10_init_b54 N  r0 r2 M = some ((), M')) : G 54 [(0, .inr (.inr (.inl r0))), (2, .inr (.inr (.inl r2)))] [] M 0 0 := by
  unfold fn10_init_b54 at hres
  refine am_aload_n cx 0 dX10_init_54 rfl ?_
  refine am_aload_n cx 1 dX10_init_55 rfl ?_
  refine am_ifnonnull cx (tgt := 63) dX10_init_56 (by decide) (fun h => ?_) (fun h => ?_)
  · have hres := am_ifn h hres
    refine am_aload_n cx 1 dX10_init_63 rfl ?_
    obtain ⟨q1, hres⟩ := am_ck_some hres
    refine am_getI cx dX10_init_64 flX10_33 (am_ke q1) ?_
    exact sn10_init_b67 cx  hres
  · have hres := am_ifp h hres
    refine am_iconst cx (v := (0 : Int32)) dX10_init_59 (by decide) ?_
    refine am_goto cx (tgt := 67) dX10_init_60 (by decide) ?_
    exact sn10_init_b67 cx  hres
set_option maxRecDepth 20000 in
theorem sn10_init_b51 {l : Launch} {G : am_G} {M' : am_Mem} {N : Nat}  (cx : am_Ctx l rm10_init yX10_init cX10_init 6 none none M' 3 120 G)  {c0 : Nat} {a1 : Int32} {r0 : Nat} {r2 : Nat} {M : am_Mem} (hres : fn10_init_b51 N  c0 a1 r0 r2 M = some ((), M')) : G 51 [(0, .inr (.inr (.inl r0))), (2, .inr (.inr (.inl r2)))] [.inl a1, .inr (.inr (.inl c0))] M 0 0 := by
  unfold fn10_init_b51 at hres
  obtain ⟨q1, hres⟩ := am_ck_some hres
  refine am_putI cx dX10_init_51 fpX10_32 (fun _ => rfl) (am_ke q1) ?_
  exact sn10_init_b54 cx  hres
set_option maxRecDepth 20000 in
theorem sn10_init_b38 {l : Launch} {G : am_G} {M' : am_Mem} {N : Nat}  (cx : am_Ctx l rm10_init yX10_init cX10_init 6 none none M' 3 120 G)  {r0 : Nat} {r2 : Nat} {M : am_Mem} (hres : fn10_init_b38 N  r0 r2 M = some ((), M')) : G 38 [(0, .inr (.inr (.inl r0))), (2, .inr (.inr (.inl r2)))] [] M 0 0 := by
  unfold fn10_init_b38 at hres
  refine am_aload_n cx 0 dX10_init_38 rfl ?_
  refine am_aload_n cx 1 dX10_init_39 rfl ?_
  refine am_ifnonnull cx (tgt := 47) dX10_init_40 (by decide) (fun h => ?_) (fun h => ?_)
  · have hres := am_ifn h hres
    refine am_aload_n cx 1 dX10_init_47 rfl ?_
    obtain ⟨q1, hres⟩ := am_ck_some hres
    refine am_getI cx dX10_init_48 flX10_27 (am_ke q1) ?_
    exact sn10_init_b51 cx  hres
  · have hres := am_ifp h hres
    refine am_iconst cx (v := (0 : Int32)) dX10_init_43 (by decide) ?_
    refine am_goto cx (tgt := 51) dX10_init_44 (by decide) ?_
    exact sn10_init_b51 cx  hres
set_option maxRecDepth 20000 in
theorem sn10_init_b35 {l : Launch} {G : am_G} {M' : am_Mem} {N : Nat}  (cx : am_Ctx l rm10_init yX10_init cX10_init 6 none none M' 3 120 G)  {c0 : Nat} {a1 : Int32} {r0 : Nat} {r2 : Nat} {M : am_Mem} (hres : fn10_init_b35 N  c0 a1 r0 r2 M = some ((), M')) : G 35 [(0, .inr (.inr (.inl r0))), (2, .inr (.inr (.inl r2)))] [.inl a1, .inr (.inr (.inl c0))] M 0 0 := by
  unfold fn10_init_b35 at hres
  obtain ⟨q1, hres⟩ := am_ck_some hres
  obtain ⟨q2, hres⟩ := am_ck_some hres
  refine am_putZ cx dX10_init_35 fpX10_23 (fun _ => rfl) q1 (am_ke q2) ?_
  exact sn10_init_b38 cx  hres
set_option maxRecDepth 20000 in
theorem sn10_init_b25 {l : Launch} {G : am_G} {M' : am_Mem} {N : Nat}  (cx : am_Ctx l rm10_init yX10_init cX10_init 6 none none M' 3 120 G)  {r0 : Nat} {r2 : Nat} {M : am_Mem} (hres : fn10_init_b25 N  r0 r2 M = some ((), M')) : G 25 [(0, .inr (.inr (.inl r0))), (2, .inr (.inr (.inl r2)))] [] M 0 0 := by
  unfold fn10_init_b25 at hres
  refine am_aload_n cx 0 dX10_init_25 rfl ?_
  refine am_aload_n cx 1 dX10_init_26 rfl ?_
  refine am_ifnonnull cx (tgt := 34) dX10_init_27 (by decide) (fun h => ?_) (fun h => ?_)
  · have hres := am_ifn h hres
    refine am_iconst cx (v := (0 : Int32)) dX10_init_34 (by decide) ?_
    exact sn10_init_b35 cx  hres
  · have hres := am_ifp h hres
    refine am_iconst cx (v := (1 : Int32)) dX10_init_30 (by decide) ?_
    refine am_goto cx (tgt := 35) dX10_init_31 (by decide) ?_
    exact sn10_init_b35 cx  hres
set_option maxRecDepth 20000 in
theorem sn10_init_b19 {l : Launch} {G : am_G} {M' : am_Mem} {N : Nat}  (cx : am_Ctx l rm10_init yX10_init cX10_init 6 none none M' 3 120 G)  {r0 : Nat} {r2 : Nat} {r4 : Nat} {M : am_Mem} (hres : fn10_init_b19 N  r0 r2 r4 M = some ((), M')) : G 19 [(0, .inr (.inr (.inl r0))), (2, .inr (.inr (.inl r2))), (4, .inr (.inr (.inl r4)))] [] M 0 0 := by
  unfold fn10_init_b19 at hres
  refine am_aload_n cx 0 dX10_init_19 rfl ?_
  refine am_aload cx 2 dX10_init_20 rfl ?_
  obtain ⟨q1, hres⟩ := am_ck_some hres
  refine am_putR cx dX10_init_22 fpX10_19 (fun _ => rfl) (Or.inl ⟨_, rfl⟩) (am_ke q1) ?_
  refine am_sub cx [0, 1] rfl ?_
  exact sn10_init_b25 cx  hres
set_option maxRecDepth 20000 in
theorem sn10_init_b14 {l : Launch} {G : am_G} {M' : am_Mem} {N : Nat}  (cx : am_Ctx l rm10_init yX10_init cX10_init 6 none none M' 3 120 G)  {r0 : Nat} {r2 : Nat} {x3 : Int32} {r4 : Nat} {M : am_Mem} (hres : fn10_init_b14 N  r0 r2 x3 r4 M = some ((), M')) : G 14 [(0, .inr (.inr (.inl r0))), (2, .inr (.inr (.inl r2))), (3, .inl x3), (4, .inr (.inr (.inl r4)))] [] M 0 0 := by
  unfold fn10_init_b14 at hres
  refine am_aload_n cx 0 dX10_init_14 rfl ?_
  refine am_iload_n cx 2 dX10_init_15 rfl ?_
  obtain ⟨q1, hres⟩ := am_ck_some hres
  refine am_putI cx dX10_init_16 fpX10_16 (fun _ => rfl) (am_ke q1) ?_
  refine am_sub cx [0, 1, 3] rfl ?_
  exact sn10_init_b19 cx  hres
set_option maxRecDepth 20000 in
theorem sn10_init_b9 {l : Launch} {G : am_G} {M' : am_Mem} {N : Nat}  (cx : am_Ctx l rm10_init yX10_init cX10_init 6 none none M' 3 120 G)  {r0 : Nat} {x1 : Int32} {r2 : Nat} {x3 : Int32} {r4 : Nat} {M : am_Mem} (hres : fn10_init_b9 N  r0 x1 r2 x3 r4 M = some ((), M')) : G 9 [(0, .inr (.inr (.inl r0))), (1, .inl x1), (2, .inr (.inr (.inl r2))), (3, .inl x3), (4, .inr (.inr (.inl r4)))] [] M 0 0 := by
  unfold fn10_init_b9 at hres
  refine am_aload_n cx 0 dX10_init_9 rfl ?_
  refine am_iload_n cx 1 dX10_init_10 rfl ?_
  obtain ⟨q1, hres⟩ := am_ck_some hres
  refine am_putI cx dX10_init_11 fpX10_13 (fun _ => rfl) (am_ke q1) ?_
  refine am_sub cx [0, 2, 3, 4] rfl ?_
  exact sn10_init_b14 cx  hres
set_option maxRecDepth 20000 in
theorem sn10_init_b0 {l : Launch} {G : am_G} {M' : am_Mem} {N : Nat}  (cx : am_Ctx l rm10_init yX10_init cX10_init 6 none none M' 3 120 G)  {r0 : Nat} {x1 : Int32} {r2 : Nat} {x3 : Int32} {r4 : Nat} {M : am_Mem} (hres : fn10_init_b0 N  r0 x1 r2 x3 r4 M = some ((), M')) : G 0 [(0, .inr (.inr (.inl r0))), (1, .inl x1), (2, .inr (.inr (.inl r2))), (3, .inl x3), (4, .inr (.inr (.inl r4)))] [] M 0 0 := by
  unfold fn10_init_b0 at hres
  refine am_aload_n cx 0 dX10_init_0 rfl ?_
  obtain ⟨q1, hres⟩ := am_ck_some hres
  refine am_objInit cx dX10_init_1 aw_2_200 aw_1_31 aw_1_32 (by rw [show am_K _ _ = 10 from (am_ke q1)]; decide) (Nat.le_of_ble_eq_true rfl) (Nat.le_of_ble_eq_true rfl) ?_
  refine am_aload_n cx 0 dX10_init_4 rfl ?_
  refine am_iconst cx (v := (-1 : Int32)) dX10_init_5 (by decide) ?_
  refine am_putI cx dX10_init_6 fpX10_9 (fun h => by cases h) (am_ke q1) ?_
  exact sn10_init_b9 cx  hres
set_option maxRecDepth 20000 in
theorem mt10_init {l : Launch} {M M' : am_Mem} {N : Nat} {r0 : Nat} {x1 : Int32} {r2 : Nat} {x3 : Int32} {r4 : Nat} (h : fn10_init N M r0 x1 r2 x3 r4 = some ((), M')) : am_Met l yX10_init cX10_init 6 none rm10_init 3 120 [.inr (.inr (.inl r0)), .inl x1, .inr (.inr (.inl r2)), .inl x3, .inr (.inr (.inl r4))] M none M' := am_mk (by decide) (Nat.le_of_ble_eq_true rfl) (fun G cx => (sn10_init_b0 cx h))
