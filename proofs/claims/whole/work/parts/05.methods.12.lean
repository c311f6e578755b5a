-- SquareCutsModel.flows
def fn12_flows_b277B (N : Nat) (k277 : Nat → Int32 → Int64 → Int32 → am_Mem → Option (Unit × am_Mem)) (r0 : Nat) (x1 : Int32) (j2 : Int64) (x4 : Int32) (M : am_Mem) : Option (Unit × am_Mem) :=
  am_ck (am_k M r0 12) (am_ck (am_k M (am_R M r0 24) 14) (am_ck (am_in x1 (am_L M (am_R M r0 24))) (if (am_I M (am_R M r0 24) x1.toNatClampNeg) ≤ x4 then am_ck (am_k M (am_R M r0 29) 15) (am_ck (am_in x1 (am_L M (am_R M r0 29))) (am_ck (decide (¬ j2 = 0)) (am_bd (fn12_laysOutline M r0 (((am_J M (am_R M r0 29) x1.toNatClampNeg) / j2).toInt32)) (fun v7 M8 => some ((), M8))))) else am_ck (am_k M (am_R M r0 30) 15) (am_ck (am_in (((9 : Int32) * x1) + x4) (am_L M (am_R M r0 30))) (am_ck (decide (¬ j2 = 0)) (am_ck (am_in (((9 : Int32) * x1) + x4) (am_L M (am_R M r0 30))) (k277 r0 x1 j2 (x4 + (1 : Int32)) (am_wJ M (am_R M r0 30) (((9 : Int32) * x1) + x4).toNatClampNeg ((am_J M (am_R M r0 30) (((9 : Int32) * x1) + x4).toNatClampNeg) / j2)))))))))
def fn12_flows_b277 (N : Nat)  : Nat → Nat → Int32 → Int64 → Int32 → am_Mem → Option (Unit × am_Mem)
  | 0 => fun _ _ _ _ _ => none
  | i + 1 => fn12_flows_b277B N (fn12_flows_b277 N  i)
def fn12_flows_b241B (N : Nat) (k241 : Nat → Int32 → Int64 → Int32 → am_Mem → Option (Unit × am_Mem)) (r0 : Nat) (x1 : Int32) (j2 : Int64) (x4 : Int32) (M : am_Mem) : Option (Unit × am_Mem) :=
  am_ck (am_k M r0 12) (am_ck (am_k M (am_R M r0 25) 14) (am_ck (am_in x1 (am_L M (am_R M r0 25))) (if (am_I M (am_R M r0 25) x1.toNatClampNeg) ≤ x4 then fn12_flows_b277 N  N r0 x1 j2 (0 : Int32) M else am_ck (am_k M (am_R M r0 31) 15) (am_ck (am_in (((14 : Int32) * x1) + x4) (am_L M (am_R M r0 31))) (am_ck (decide (¬ j2 = 0)) (am_ck (am_in (((14 : Int32) * x1) + x4) (am_L M (am_R M r0 31))) (k241 r0 x1 j2 (x4 + (1 : Int32)) (am_wJ M (am_R M r0 31) (((14 : Int32) * x1) + x4).toNatClampNeg ((am_J M (am_R M r0 31) (((14 : Int32) * x1) + x4).toNatClampNeg) / j2)))))))))
def fn12_flows_b241 (N : Nat)  : Nat → Nat → Int32 → Int64 → Int32 → am_Mem → Option (Unit × am_Mem)
  | 0 => fun _ _ _ _ _ => none
  | i + 1 => fn12_flows_b241B N (fn12_flows_b241 N  i)
def fn12_flows_b141B (N : Nat) (k141 : Nat → Int32 → Int64 → Int32 → am_Mem → Option (Unit × am_Mem)) (r0 : Nat) (x1 : Int32) (j2 : Int64) (x4 : Int32) (M : am_Mem) : Option (Unit × am_Mem) :=
  am_ck (am_k M r0 12) (am_ck (am_k M (am_R M r0 25) 14) (am_ck (am_in x1 (am_L M (am_R M r0 25))) (if (am_I M (am_R M r0 25) x1.toNatClampNeg) ≤ x4 then fn12_flows_b241 N  N r0 x1 j2 (0 : Int32) M else am_ck (am_k M (am_R M r0 26) 14) (am_ck (am_in (((28 : Int32) * x1) + ((2 : Int32) * x4)) (am_L M (am_R M r0 26))) (am_ck (am_k M (am_R M r0 30) 15) (am_ck (am_in (((9 : Int32) * x1) + (am_I M (am_R M r0 26) (((28 : Int32) * x1) + ((2 : Int32) * x4)).toNatClampNeg)) (am_L M (am_R M r0 30))) (am_ck (am_in ((((28 : Int32) * x1) + ((2 : Int32) * x4)) + (1 : Int32)) (am_L M (am_R M r0 26))) (am_ck (am_in (((9 : Int32) * x1) + (am_I M (am_R M r0 26) ((((28 : Int32) * x1) + ((2 : Int32) * x4)) + (1 : Int32)).toNatClampNeg)) (am_L M (am_R M r0 30))) (am_ck (am_k M (am_R M r0 31) 15) (am_ck (am_in (((14 : Int32) * x1) + x4) (am_L M (am_R M r0 31))) (am_ck (am_in (((14 : Int32) * x1) + x4) (am_L M (am_R M r0 31))) (am_bd (fn12_common N (am_wJ M (am_R M r0 31) (((14 : Int32) * x1) + x4).toNatClampNeg ((am_J M (am_R M r0 30) (((9 : Int32) * x1) + (am_I M (am_R M r0 26) (((28 : Int32) * x1) + ((2 : Int32) * x4)).toNatClampNeg)).toNatClampNeg) - (am_J M (am_R M r0 30) (((9 : Int32) * x1) + (am_I M (am_R M r0 26) ((((28 : Int32) * x1) + ((2 : Int32) * x4)) + (1 : Int32)).toNatClampNeg)).toNatClampNeg))) j2 (am_J (am_wJ M (am_R M r0 31) (((14 : Int32) * x1) + x4).toNatClampNeg ((am_J M (am_R M r0 30) (((9 : Int32) * x1) + (am_I M (am_R M r0 26) (((28 : Int32) * x1) + ((2 : Int32) * x4)).toNatClampNeg)).toNatClampNeg) - (am_J M (am_R M r0 30) (((9 : Int32) * x1) + (am_I M (am_R M r0 26) ((((28 : Int32) * x1) + ((2 : Int32) * x4)) + (1 : Int32)).toNatClampNeg)).toNatClampNeg))) (am_R M r0 31) (((14 : Int32) * x1) + x4).toNatClampNeg)) (fun v13 M14 => k141 r0 x1 v13 (x4 + (1 : Int32)) M14)))))))))))))
def fn12_flows_b141 (N : Nat)  : Nat → Nat → Int32 → Int64 → Int32 → am_Mem → Option (Unit × am_Mem)
  | 0 => fun _ _ _ _ _ => none
  | i + 1 => fn12_flows_b141B N (fn12_flows_b141 N  i)
def fn12_flows_b129 (N : Nat) (k83 : Nat → Int32 → Int32 → am_Mem → Option (Unit × am_Mem)) (c0 : Nat) (a1 : Int32) (b2 : Int64) (r0 : Nat) (x1 : Int32) (x2 : Int32) (M : am_Mem) : Option (Unit × am_Mem) :=
  am_ck (am_k M c0 15) (am_ck (am_in a1 (am_L M c0)) (k83 r0 x1 (x2 + (1 : Int32)) (am_wJ M c0 a1.toNatClampNeg b2)))
def fn12_flows_b83B (N : Nat) (k83 : Nat → Int32 → Int32 → am_Mem → Option (Unit × am_Mem)) (r0 : Nat) (x1 : Int32) (x2 : Int32) (M : am_Mem) : Option (Unit × am_Mem) :=
  am_ck (am_k M r0 12) (am_ck (am_k M (am_R M r0 24) 14) (am_ck (am_in x1 (am_L M (am_R M r0 24))) (if ((am_I M (am_R M r0 24) x1.toNatClampNeg) - (1 : Int32)) ≤ x2 then fn12_flows_b141 N  N r0 x1 (0 : Int64) (0 : Int32) M else am_bd (fn12_laysMatrix N M r0 x1 (0 : Int32) x2) (fun v4 M5 => am_ck (am_k M5 r0 12) (am_bd (fn12_determinant N M5 r0 v4) (fun v8 M9 => am_ck (am_k M9 r0 12) (if (x2 - x2 / (2 : Int32) * (2 : Int32)) = 0 then fn12_flows_b129 N k83 (am_R M9 r0 30) (((9 : Int32) * x1) + x2) v8 r0 x1 x2 M9 else fn12_flows_b129 N k83 (am_R M9 r0 30) (((9 : Int32) * x1) + x2) (-v8) r0 x1 x2 M9)))))))
def fn12_flows_b83 (N : Nat)  : Nat → Nat → Int32 → Int32 → am_Mem → Option (Unit × am_Mem)
  | 0 => fun _ _ _ _ => none
  | i + 1 => fn12_flows_b83B N (fn12_flows_b83 N  i)
def fn12_flows_b45B (N : Nat) (k45 : Nat → Int32 → Int32 → am_Mem → Option (Unit × am_Mem)) (r0 : Nat) (x1 : Int32) (x2 : Int32) (M : am_Mem) : Option (Unit × am_Mem) :=
  if (14 : Int32) ≤ x2 then am_ck (am_k M r0 12) (am_ck (am_k M (am_R M r0 29) 15) (am_ck (am_in x1 (am_L M (am_R M r0 29))) (if (lg_cmp (am_J M (am_R M r0 29) x1.toNatClampNeg) (0 : Int64)) = 0 then some ((), M) else fn12_flows_b83 N  N r0 x1 (0 : Int32) M))) else am_ck (am_k M r0 12) (am_ck (am_k M (am_R M r0 31) 15) (am_ck (am_in (((14 : Int32) * x1) + x2) (am_L M (am_R M r0 31))) (k45 r0 x1 (x2 + (1 : Int32)) (am_wJ M (am_R M r0 31) (((14 : Int32) * x1) + x2).toNatClampNeg (0 : Int64)))))
def fn12_flows_b45 (N : Nat)  : Nat → Nat → Int32 → Int32 → am_Mem → Option (Unit × am_Mem)
  | 0 => fun _ _ _ _ => none
  | i + 1 => fn12_flows_b45B N (fn12_flows_b45 N  i)
def fn12_flows_b19B (N : Nat) (k19 : Nat → Int32 → Int32 → am_Mem → Option (Unit × am_Mem)) (r0 : Nat) (x1 : Int32) (x2 : Int32) (M : am_Mem) : Option (Unit × am_Mem) :=
  if (9 : Int32) ≤ x2 then fn12_flows_b45 N  N r0 x1 (0 : Int32) M else am_ck (am_k M r0 12) (am_ck (am_k M (am_R M r0 30) 15) (am_ck (am_in (((9 : Int32) * x1) + x2) (am_L M (am_R M r0 30))) (k19 r0 x1 (x2 + (1 : Int32)) (am_wJ M (am_R M r0 30) (((9 : Int32) * x1) + x2).toNatClampNeg (0 : Int64)))))
def fn12_flows_b19 (N : Nat)  : Nat → Nat → Int32 → Int32 → am_Mem → Option (Unit × am_Mem)
  | 0 => fun _ _ _ _ => none
  | i + 1 => fn12_flows_b19B N (fn12_flows_b19 N  i)
def fn12_flows_b0 (N : Nat)  (r0 : Nat) (x1 : Int32) (M : am_Mem) : Option (Unit × am_Mem) :=
  am_ck (am_k M r0 12) (am_bd (fn12_laysMatrix N M r0 x1 (-1 : Int32) (-1 : Int32)) (fun v2 M3 => am_ck (am_k M3 r0 12) (am_bd (fn12_determinant N M3 r0 v2) (fun v6 M7 => am_ck (am_k M7 (am_R M r0 29) 15) (am_ck (am_in x1 (am_L M7 (am_R M r0 29))) (fn12_flows_b19 N  N r0 x1 (0 : Int32) (am_wJ M7 (am_R M r0 29) x1.toNatClampNeg v6)))))))
def fn12_flows (N : Nat) (M : am_Mem) (r0 : Nat) (x1 : Int32) : Option (Unit × am_Mem) := fn12_flows_b0 N r0 x1 M
def rm12_flows : Room := { frames := 2, cells := 0, slots := 0, locals := 56 }
set_option maxRecDepth 20000 in
theorem sn12_flows_b277B {l : Launch} {G : am_G} {M' : am_Mem} {N : Nat} {k277 : Nat → Int32 → Int64 → Int32 → am_Mem → Option (Unit × am_Mem)} (cx : am_Ctx l rm12_flows yX12_flows cX12_flows 5 none none M' 0 0 G) (hk277 : ∀ (r0 : Nat) (x1 : Int32) (j2 : Int64) (x4 : Int32) (M : am_Mem), k277 r0 x1 j2 x4 M = some ((), M') → G 277 [(0, .inr (.inr r0)), (1, .inl x1), (2, .inr (.inl j2)), (4, .inl x4)] [] M 0 0) {r0 : Nat} {x1 : Int32} {j2 : Int64} {x4 : Int32} {M : am_Mem} (hres : fn12_flows_b277B N k277 r0 x1 j2 x4 M = some ((), M')) : G 277 [(0, .inr (.inr r0)), (1, .inl x1), (2, .inr (.inl j2)), (4, .inl x4)] [] M 0 0 := by
  unfold fn12_flows_b277B at hres
  refine am_iload cx 3 dX12_flows_277 rfl ?_
  refine am_aload_n cx 0 dX12_flows_279 rfl ?_
  obtain ⟨q1, hres⟩ := am_ck_some hres
  refine am_getR cx dX12_flows_280 flX12_46 (am_ke q1) ?_
  refine am_iload_n cx 1 dX12_flows_283 rfl ?_
  obtain ⟨q2, hres⟩ := am_ck_some hres
  obtain ⟨q3, hres⟩ := am_ck_some hres
  refine am_iald cx dX12_flows_284 (am_ke q2) q3 ?_
  refine am_icmp_ge cx (tgt := 310) dX12_flows_285 (by decide) (fun h => ?_) (fun h => ?_)
  · have hres := am_ifp h hres
    refine am_aload_n cx 0 dX12_flows_310 rfl ?_
    refine am_aload_n cx 0 dX12_flows_311 rfl ?_
    refine am_getR cx dX12_flows_312 flX12_61 (am_ke q1) ?_
    refine am_iload_n cx 1 dX12_flows_315 rfl ?_
    obtain ⟨q4, hres⟩ := am_ck_some hres
    obtain ⟨q5, hres⟩ := am_ck_some hres
    refine am_lald cx dX12_flows_316 (am_ke q4) q5 ?_
    refine am_lload_n cx 2 dX12_flows_317 rfl ?_
    obtain ⟨q6, hres⟩ := am_ck_some hres
    refine am_ldiv cx dX12_flows_318 (of_decide_eq_true q6) ?_
    refine am_l2i cx dX12_flows_319 ?_
    obtain ⟨v7, M8, q9, hres⟩ := am_bd_some hres
    refine am_callV0 cx [.inl ((am_J M (am_R M r0 29) x1.toNatClampNeg) / j2).toInt32] dX12_flows_320 cvX12_232 (mt12_laysOutline q9) (am_ke q1) ⟨rfl, rfl, Nat.le_of_ble_eq_true rfl, Nat.le_of_ble_eq_true rfl⟩ rfl (Nat.le_of_ble_eq_true rfl) ⟨Nat.le_of_ble_eq_true rfl, Nat.le_of_ble_eq_true rfl⟩ ?_
    obtain ⟨-, rfl⟩ := am_fin hres
    exact am_vret cx dX12_flows_323
  · have hres := am_ifn h hres
    refine am_aload_n cx 0 dX12_flows_288 rfl ?_
    refine am_getR cx dX12_flows_289 flX12_64 (am_ke q1) ?_
    refine am_bipush cx (v := (9 : Int32)) dX12_flows_292 (by decide) ?_
    refine am_iload_n cx 1 dX12_flows_294 rfl ?_
    refine am_imul cx dX12_flows_295 ?_
    refine am_iload cx 3 dX12_flows_296 rfl ?_
    refine am_iadd cx dX12_flows_298 ?_
    refine am_dup2 cx dX12_flows_299 rfl rfl ?_
    obtain ⟨q10, hres⟩ := am_ck_some hres
    obtain ⟨q11, hres⟩ := am_ck_some hres
    refine am_lald cx dX12_flows_300 (am_ke q10) q11 ?_
    refine am_lload_n cx 2 dX12_flows_301 rfl ?_
    obtain ⟨q12, hres⟩ := am_ck_some hres
    refine am_ldiv cx dX12_flows_302 (of_decide_eq_true q12) ?_
    obtain ⟨q13, hres⟩ := am_ck_some hres
    refine am_last cx dX12_flows_303 (am_ke q10) q13  ?_
    refine am_iincw cx (lv' := [(0, .inr (.inr r0)), (1, .inl x1), (2, .inr (.inl j2)), (4, .inl (x4 + (1 : Int32)))]) (w := (1 : Int32)) 3 dX12_flows_304 (by decide) rfl (Nat.le_of_ble_eq_true rfl) rfl ?_
    refine am_goto cx (tgt := 277) dX12_flows_307 (by decide) ?_
    exact hk277 _ _ _ _ _ hres
set_option maxRecDepth 20000 in
theorem sn12_flows_b277 {l : Launch} {G : am_G} {M' : am_Mem} {N : Nat}  (cx : am_Ctx l rm12_flows yX12_flows cX12_flows 5 none none M' 0 0 G)  (i : Nat) : ∀ (r0 : Nat) (x1 : Int32) (j2 : Int64) (x4 : Int32) (M : am_Mem), fn12_flows_b277 N  i r0 x1 j2 x4 M = some ((), M') → G 277 [(0, .inr (.inr r0)), (1, .inl x1), (2, .inr (.inl j2)), (4, .inl x4)] [] M 0 0 := by
  induction i with
  | zero => intro r0 x1 j2 x4 M hres; exact am_no hres
  | succ i ih => intro r0 x1 j2 x4 M hres; exact sn12_flows_b277B cx ih hres
set_option maxRecDepth 20000 in
theorem sn12_flows_b241B {l : Launch} {G : am_G} {M' : am_Mem} {N : Nat} {k241 : Nat → Int32 → Int64 → Int32 → am_Mem → Option (Unit × am_Mem)} (cx : am_Ctx l rm12_flows yX12_flows cX12_flows 5 none none M' 0 0 G) (hk241 : ∀ (r0 : Nat) (x1 : Int32) (j2 : Int64) (x4 : Int32) (M : am_Mem), k241 r0 x1 j2 x4 M = some ((), M') → G 241 [(0, .inr (.inr r0)), (1, .inl x1), (2, .inr (.inl j2)), (4, .inl x4)] [] M 0 0) {r0 : Nat} {x1 : Int32} {j2 : Int64} {x4 : Int32} {M : am_Mem} (hres : fn12_flows_b241B N k241 r0 x1 j2 x4 M = some ((), M')) : G 241 [(0, .inr (.inr r0)), (1, .inl x1), (2, .inr (.inl j2)), (4, .inl x4)] [] M 0 0 := by
  unfold fn12_flows_b241B at hres
  refine am_iload cx 3 dX12_flows_241 rfl ?_
  refine am_aload_n cx 0 dX12_flows_243 rfl ?_
  obtain ⟨q1, hres⟩ := am_ck_some hres
  refine am_getR cx dX12_flows_244 flX12_49 (am_ke q1) ?_
  refine am_iload_n cx 1 dX12_flows_247 rfl ?_
  obtain ⟨q2, hres⟩ := am_ck_some hres
  obtain ⟨q3, hres⟩ := am_ck_some hres
  refine am_iald cx dX12_flows_248 (am_ke q2) q3 ?_
  refine am_icmp_ge cx (tgt := 274) dX12_flows_249 (by decide) (fun h => ?_) (fun h => ?_)
  · have hres := am_ifp h hres
    refine am_iconst cx (v := (0 : Int32)) dX12_flows_274 (by decide) ?_
    refine am_istore cx (lv' := [(0, .inr (.inr r0)), (1, .inl x1), (2, .inr (.inl j2)), (4, .inl (0 : Int32))]) dX12_flows_275 (Nat.le_of_ble_eq_true rfl) rfl ?_
    exact sn12_flows_b277 cx  N _ _ _ _ _ hres
  · have hres := am_ifn h hres
    refine am_aload_n cx 0 dX12_flows_252 rfl ?_
    refine am_getR cx dX12_flows_253 flX12_67 (am_ke q1) ?_
    refine am_bipush cx (v := (14 : Int32)) dX12_flows_256 (by decide) ?_
    refine am_iload_n cx 1 dX12_flows_258 rfl ?_
    refine am_imul cx dX12_flows_259 ?_
    refine am_iload cx 3 dX12_flows_260 rfl ?_
    refine am_iadd cx dX12_flows_262 ?_
    refine am_dup2 cx dX12_flows_263 rfl rfl ?_
    obtain ⟨q4, hres⟩ := am_ck_some hres
    obtain ⟨q5, hres⟩ := am_ck_some hres
    refine am_lald cx dX12_flows_264 (am_ke q4) q5 ?_
    refine am_lload_n cx 2 dX12_flows_265 rfl ?_
    obtain ⟨q6, hres⟩ := am_ck_some hres
    refine am_ldiv cx dX12_flows_266 (of_decide_eq_true q6) ?_
    obtain ⟨q7, hres⟩ := am_ck_some hres
    refine am_last cx dX12_flows_267 (am_ke q4) q7  ?_
    refine am_iincw cx (lv' := [(0, .inr (.inr r0)), (1, .inl x1), (2, .inr (.inl j2)), (4, .inl (x4 + (1 : Int32)))]) (w := (1 : Int32)) 3 dX12_flows_268 (by decide) rfl (Nat.le_of_ble_eq_true rfl) rfl ?_
    refine am_goto cx (tgt := 241) dX12_flows_271 (by decide) ?_
    exact hk241 _ _ _ _ _ hres
set_option maxRecDepth 20000 in
theorem sn12_flows_b241 {l : Launch} {G : am_G} {M' : am_Mem} {N : Nat}  (cx : am_Ctx l rm12_flows yX12_flows cX12_flows 5 none none M' 0 0 G)  (i : Nat) : ∀ (r0 : Nat) (x1 : Int32) (j2 : Int64) (x4 : Int32) (M : am_Mem), fn12_flows_b241 N  i r0 x1 j2 x4 M = some ((), M') → G 241 [(0, .inr (.inr r0)), (1, .inl x1), (2, .inr (.inl j2)), (4, .inl x4)] [] M 0 0 := by
  induction i with
  | zero => intro r0 x1 j2 x4 M hres; exact am_no hres
  | succ i ih => intro r0 x1 j2 x4 M hres; exact sn12_flows_b241B cx ih hres
set_option maxRecDepth 20000 in
theorem sn12_flows_b141B {l : Launch} {G : am_G} {M' : am_Mem} {N : Nat} {k141 : Nat → Int32 → Int64 → Int32 → am_Mem → Option (Unit × am_Mem)} (cx : am_Ctx l rm12_flows yX12_flows cX12_flows 5 none none M' 0 0 G) (hk141 : ∀ (r0 : Nat) (x1 : Int32) (j2 : Int64) (x4 : Int32) (M : am_Mem), k141 r0 x1 j2 x4 M = some ((), M') → G 141 [(0, .inr (.inr r0)), (1, .inl x1), (2, .inr (.inl j2)), (4, .inl x4)] [] M 0 0) {r0 : Nat} {x1 : Int32} {j2 : Int64} {x4 : Int32} {M : am_Mem} (hres : fn12_flows_b141B N k141 r0 x1 j2 x4 M = some ((), M')) : G 141 [(0, .inr (.inr r0)), (1, .inl x1), (2, .inr (.inl j2)), (4, .inl x4)] [] M 0 0 := by
  unfold fn12_flows_b141B at hres
  refine am_iload cx 3 dX12_flows_141 rfl ?_
  refine am_aload_n cx 0 dX12_flows_143 rfl ?_
  obtain ⟨q1, hres⟩ := am_ck_some hres
  refine am_getR cx dX12_flows_144 flX12_49 (am_ke q1) ?_
  refine am_iload_n cx 1 dX12_flows_147 rfl ?_
  obtain ⟨q2, hres⟩ := am_ck_some hres
  obtain ⟨q3, hres⟩ := am_ck_some hres
  refine am_iald cx dX12_flows_148 (am_ke q2) q3 ?_
  refine am_icmp_ge cx (tgt := 238) dX12_flows_149 (by decide) (fun h => ?_) (fun h => ?_)
  · have hres := am_ifp h hres
    refine am_iconst cx (v := (0 : Int32)) dX12_flows_238 (by decide) ?_
    refine am_istore cx (lv' := [(0, .inr (.inr r0)), (1, .inl x1), (2, .inr (.inl j2)), (4, .inl (0 : Int32))]) dX12_flows_239 (Nat.le_of_ble_eq_true rfl) rfl ?_
    exact sn12_flows_b241 cx  N _ _ _ _ _ hres
  · have hres := am_ifn h hres
    refine am_aload_n cx 0 dX12_flows_152 rfl ?_
    refine am_getR cx dX12_flows_153 flX12_67 (am_ke q1) ?_
    refine am_bipush cx (v := (14 : Int32)) dX12_flows_156 (by decide) ?_
    refine am_iload_n cx 1 dX12_flows_158 rfl ?_
    refine am_imul cx dX12_flows_159 ?_
    refine am_iload cx 3 dX12_flows_160 rfl ?_
    refine am_iadd cx dX12_flows_162 ?_
    refine am_aload_n cx 0 dX12_flows_163 rfl ?_
    refine am_getR cx dX12_flows_164 flX12_64 (am_ke q1) ?_
    refine am_bipush cx (v := (9 : Int32)) dX12_flows_167 (by decide) ?_
    refine am_iload_n cx 1 dX12_flows_169 rfl ?_
    refine am_imul cx dX12_flows_170 ?_
    refine am_aload_n cx 0 dX12_flows_171 rfl ?_
    refine am_getR cx dX12_flows_172 flX12_52 (am_ke q1) ?_
    refine am_bipush cx (v := (28 : Int32)) dX12_flows_175 (by decide) ?_
    refine am_iload_n cx 1 dX12_flows_177 rfl ?_
    refine am_imul cx dX12_flows_178 ?_
    refine am_iconst cx (v := (2 : Int32)) dX12_flows_179 (by decide) ?_
    refine am_iload cx 3 dX12_flows_180 rfl ?_
    refine am_imul cx dX12_flows_182 ?_
    refine am_iadd cx dX12_flows_183 ?_
    obtain ⟨q4, hres⟩ := am_ck_some hres
    obtain ⟨q5, hres⟩ := am_ck_some hres
    refine am_iald cx dX12_flows_184 (am_ke q4) q5 ?_
    refine am_iadd cx dX12_flows_185 ?_
    obtain ⟨q6, hres⟩ := am_ck_some hres
    obtain ⟨q7, hres⟩ := am_ck_some hres
    refine am_lald cx dX12_flows_186 (am_ke q6) q7 ?_
    refine am_aload_n cx 0 dX12_flows_187 rfl ?_
    refine am_getR cx dX12_flows_188 flX12_64 (am_ke q1) ?_
    refine am_bipush cx (v := (9 : Int32)) dX12_flows_191 (by decide) ?_
    refine am_iload_n cx 1 dX12_flows_193 rfl ?_
    refine am_imul cx dX12_flows_194 ?_
    refine am_aload_n cx 0 dX12_flows_195 rfl ?_
    refine am_getR cx dX12_flows_196 flX12_52 (am_ke q1) ?_
    refine am_bipush cx (v := (28 : Int32)) dX12_flows_199 (by decide) ?_
    refine am_iload_n cx 1 dX12_flows_201 rfl ?_
    refine am_imul cx dX12_flows_202 ?_
    refine am_iconst cx (v := (2 : Int32)) dX12_flows_203 (by decide) ?_
    refine am_iload cx 3 dX12_flows_204 rfl ?_
    refine am_imul cx dX12_flows_206 ?_
    refine am_iadd cx dX12_flows_207 ?_
    refine am_iconst cx (v := (1 : Int32)) dX12_flows_208 (by decide) ?_
    refine am_iadd cx dX12_flows_209 ?_
    obtain ⟨q8, hres⟩ := am_ck_some hres
    refine am_iald cx dX12_flows_210 (am_ke q4) q8 ?_
    refine am_iadd cx dX12_flows_211 ?_
    obtain ⟨q9, hres⟩ := am_ck_some hres
    refine am_lald cx dX12_flows_212 (am_ke q6) q9 ?_
    refine am_lsub cx dX12_flows_213 ?_
    obtain ⟨q10, hres⟩ := am_ck_some hres
    obtain ⟨q11, hres⟩ := am_ck_some hres
    refine am_last cx dX12_flows_214 (am_ke q10) q11  ?_
    refine am_lload_n cx 2 dX12_flows_215 rfl ?_
    refine am_aload_n cx 0 dX12_flows_216 rfl ?_
    refine am_getR cx dX12_flows_217 flX12_67 (am_ke q1) ?_
    refine am_bipush cx (v := (14 : Int32)) dX12_flows_220 (by decide) ?_
    refine am_iload_n cx 1 dX12_flows_222 rfl ?_
    refine am_imul cx dX12_flows_223 ?_
    refine am_iload cx 3 dX12_flows_224 rfl ?_
    refine am_iadd cx dX12_flows_226 ?_
    obtain ⟨q12, hres⟩ := am_ck_some hres
    refine am_lald cx dX12_flows_227 (am_ke q10) q12 ?_
    obtain ⟨v13, M14, q15, hres⟩ := am_bd_some hres
    refine am_callS1 cx [.inr (.inl j2), .inr (.inl (am_J (am_wJ M (am_R M r0 31) (((14 : Int32) * x1) + x4).toNatClampNeg ((am_J M (am_R M r0 30) (((9 : Int32) * x1) + (am_I M (am_R M r0 26) (((28 : Int32) * x1) + ((2 : Int32) * x4)).toNatClampNeg)).toNatClampNeg) - (am_J M (am_R M r0 30) (((9 : Int32) * x1) + (am_I M (am_R M r0 26) ((((28 : Int32) * x1) + ((2 : Int32) * x4)) + (1 : Int32)).toNatClampNeg)).toNatClampNeg))) (am_R M r0 31) (((14 : Int32) * x1) + x4).toNatClampNeg))] dX12_flows_228 csX12_260 (mt12_common q15)  ⟨rfl, rfl, Nat.le_of_ble_eq_true rfl, Nat.le_of_ble_eq_true rfl⟩ rfl (Nat.le_of_ble_eq_true rfl) ⟨Nat.le_of_ble_eq_true rfl, Nat.le_of_ble_eq_true rfl⟩ ?_
    refine am_lstore_n cx (lv' := [(0, .inr (.inr r0)), (1, .inl x1), (2, .inr (.inl v13)), (4, .inl x4)]) dX12_flows_231 (Nat.le_of_ble_eq_true rfl) rfl ?_
    refine am_iincw cx (lv' := [(0, .inr (.inr r0)), (1, .inl x1), (2, .inr (.inl v13)), (4, .inl (x4 + (1 : Int32)))]) (w := (1 : Int32)) 3 dX12_flows_232 (by decide) rfl (Nat.le_of_ble_eq_true rfl) rfl ?_
    refine am_goto cx (tgt := 141) dX12_flows_235 (by decide) ?_
    exact hk141 _ _ _ _ _ hres
set_option maxRecDepth 20000 in
theorem sn12_flows_b141 {l : Launch} {G : am_G} {M' : am_Mem} {N : Nat}  (cx : am_Ctx l rm12_flows yX12_flows cX12_flows 5 none none M' 0 0 G)  (i : Nat) : ∀ (r0 : Nat) (x1 : Int32) (j2 : Int64) (x4 : Int32) (M : am_Mem), fn12_flows_b141 N  i r0 x1 j2 x4 M = some ((), M') → G 141 [(0, .inr (.inr r0)), (1, .inl x1), (2, .inr (.inl j2)), (4, .inl x4)] [] M 0 0 := by
  induction i with
  | zero => intro r0 x1 j2 x4 M hres; exact am_no hres
  | succ i ih => intro r0 x1 j2 x4 M hres; exact sn12_flows_b141B cx ih hres
set_option maxRecDepth 20000 in
theorem sn12_flows_b129 {l : Launch} {G : am_G} {M' : am_Mem} {N : Nat} {k83 : Nat → Int32 → Int32 → am_Mem → Option (Unit × am_Mem)} (cx : am_Ctx l rm12_flows yX12_flows cX12_flows 5 none none M' 0 0 G) (hk83 : ∀ (r0 : Nat) (x1 : Int32) (x2 : Int32) (M : am_Mem), k83 r0 x1 x2 M = some ((), M') → G 83 [(0, .inr (.inr r0)), (1, .inl x1), (2, .inl x2)] [] M 0 0) {c0 : Nat} {a1 : Int32} {b2 : Int64} {r0 : Nat} {x1 : Int32} {x2 : Int32} {M : am_Mem} (hres : fn12_flows_b129 N k83 c0 a1 b2 r0 x1 x2 M = some ((), M')) : G 129 [(0, .inr (.inr r0)), (1, .inl x1), (2, .inl x2)] [.inr (.inl b2), .inl a1, .inr (.inr c0)] M 0 0 := by
  unfold fn12_flows_b129 at hres
  obtain ⟨q1, hres⟩ := am_ck_some hres
  obtain ⟨q2, hres⟩ := am_ck_some hres
  refine am_last cx dX12_flows_129 (am_ke q1) q2  ?_
  refine am_iincw cx (lv' := [(0, .inr (.inr r0)), (1, .inl x1), (2, .inl (x2 + (1 : Int32)))]) (w := (1 : Int32)) 2 dX12_flows_130 (by decide) rfl (Nat.le_of_ble_eq_true rfl) rfl ?_
  refine am_goto cx (tgt := 83) dX12_flows_133 (by decide) ?_
  exact hk83 _ _ _ _ hres
set_option maxRecDepth 20000 in
theorem sn12_flows_b83B {l : Launch} {G : am_G} {M' : am_Mem} {N : Nat} {k83 : Nat → Int32 → Int32 → am_Mem → Option (Unit × am_Mem)} (cx : am_Ctx l rm12_flows yX12_flows cX12_flows 5 none none M' 0 0 G) (hk83 : ∀ (r0 : Nat) (x1 : Int32) (x2 : Int32) (M : am_Mem), k83 r0 x1 x2 M = some ((), M') → G 83 [(0, .inr (.inr r0)), (1, .inl x1), (2, .inl x2)] [] M 0 0) {r0 : Nat} {x1 : Int32} {x2 : Int32} {M : am_Mem} (hres : fn12_flows_b83B N k83 r0 x1 x2 M = some ((), M')) : G 83 [(0, .inr (.inr r0)), (1, .inl x1), (2, .inl x2)] [] M 0 0 := by
  unfold fn12_flows_b83B at hres
  refine am_iload_n cx 2 dX12_flows_83 rfl ?_
  refine am_aload_n cx 0 dX12_flows_84 rfl ?_
  obtain ⟨q1, hres⟩ := am_ck_some hres
  refine am_getR cx dX12_flows_85 flX12_46 (am_ke q1) ?_
  refine am_iload_n cx 1 dX12_flows_88 rfl ?_
  obtain ⟨q2, hres⟩ := am_ck_some hres
  obtain ⟨q3, hres⟩ := am_ck_some hres
  refine am_iald cx dX12_flows_89 (am_ke q2) q3 ?_
  refine am_iconst cx (v := (1 : Int32)) dX12_flows_90 (by decide) ?_
  refine am_isub cx dX12_flows_91 ?_
  refine am_icmp_ge cx (tgt := 136) dX12_flows_92 (by decide) (fun h => ?_) (fun h => ?_)
  · have hres := am_ifp h hres
    refine am_lconst cx (v := (0 : Int64)) dX12_flows_136 (by decide) ?_
    refine am_lstore_n cx (lv' := [(0, .inr (.inr r0)), (1, .inl x1), (2, .inr (.inl (0 : Int64)))]) dX12_flows_137 (Nat.le_of_ble_eq_true rfl) rfl ?_
    refine am_iconst cx (v := (0 : Int32)) dX12_flows_138 (by decide) ?_
    refine am_istore cx (lv' := [(0, .inr (.inr r0)), (1, .inl x1), (2, .inr (.inl (0 : Int64))), (4, .inl (0 : Int32))]) dX12_flows_139 (Nat.le_of_ble_eq_true rfl) rfl ?_
    exact sn12_flows_b141 cx  N _ _ _ _ _ hres
  · have hres := am_ifn h hres
    refine am_aload_n cx 0 dX12_flows_95 rfl ?_
    refine am_aload_n cx 0 dX12_flows_96 rfl ?_
    refine am_iload_n cx 1 dX12_flows_97 rfl ?_
    refine am_iconst cx (v := (0 : Int32)) dX12_flows_98 (by decide) ?_
    refine am_iload_n cx 2 dX12_flows_99 rfl ?_
    obtain ⟨v4, M5, q6, hres⟩ := am_bd_some hres
    refine am_callV1 cx [.inl x1, .inl (0 : Int32), .inl x2] dX12_flows_100 cvX12_252 (mt12_laysMatrix q6) (am_ke q1) ⟨rfl, rfl, Nat.le_of_ble_eq_true rfl, Nat.le_of_ble_eq_true rfl⟩ rfl (Nat.le_of_ble_eq_true rfl) ⟨Nat.le_of_ble_eq_true rfl, Nat.le_of_ble_eq_true rfl⟩ ?_
    obtain ⟨q7, hres⟩ := am_ck_some hres
    obtain ⟨v8, M9, q10, hres⟩ := am_bd_some hres
    refine am_callV1 cx [.inl v4] dX12_flows_103 cvX12_256 (mt12_determinant q10) (am_ke q7) ⟨rfl, rfl, Nat.le_of_ble_eq_true rfl, Nat.le_of_ble_eq_true rfl⟩ rfl (Nat.le_of_ble_eq_true rfl) ⟨Nat.le_of_ble_eq_true rfl, Nat.le_of_ble_eq_true rfl⟩ ?_
    refine am_lstore_n cx (lv' := [(0, .inr (.inr r0)), (1, .inl x1), (2, .inl x2), (3, .inr (.inl v8))]) dX12_flows_106 (Nat.le_of_ble_eq_true rfl) rfl ?_
    refine am_aload_n cx 0 dX12_flows_107 rfl ?_
    obtain ⟨q11, hres⟩ := am_ck_some hres
    refine am_getR cx dX12_flows_108 flX12_64 (am_ke q11) ?_
    refine am_bipush cx (v := (9 : Int32)) dX12_flows_111 (by decide) ?_
    refine am_iload_n cx 1 dX12_flows_113 rfl ?_
    refine am_imul cx dX12_flows_114 ?_
    refine am_iload_n cx 2 dX12_flows_115 rfl ?_
    refine am_iadd cx dX12_flows_116 ?_
    refine am_iload_n cx 2 dX12_flows_117 rfl ?_
    refine am_iconst cx (v := (2 : Int32)) dX12_flows_118 (by decide) ?_
    refine am_irem cx dX12_flows_119 (by decide) ?_
    refine am_if_ne cx (tgt := 127) dX12_flows_120 (by decide) (fun h => ?_) (fun h => ?_)
    · have hres := am_ifn h hres
      refine am_lload_n cx 3 dX12_flows_127 rfl ?_
      refine am_lneg cx dX12_flows_128 ?_
      refine am_sub cx [0, 1, 2] rfl ?_
      exact sn12_flows_b129 cx hk83 hres
    · have hres := am_ifp h hres
      refine am_lload_n cx 3 dX12_flows_123 rfl ?_
      refine am_goto cx (tgt := 129) dX12_flows_124 (by decide) ?_
      refine am_sub cx [0, 1, 2] rfl ?_
      exact sn12_flows_b129 cx hk83 hres
set_option maxRecDepth 20000 in
theorem sn12_flows_b83 {l : Launch} {G : am_G} {M' : am_Mem} {N : Nat}  (cx : am_Ctx l rm12_flows yX12_flows cX12_flows 5 none none M' 0 0 G)  (i : Nat) : ∀ (r0 : Nat) (x1 : Int32) (x2 : Int32) (M : am_Mem), fn12_flows_b83 N  i r0 x1 x2 M = some ((), M') → G 83 [(0, .inr (.inr r0)), (1, .inl x1), (2, .inl x2)] [] M 0 0 := by
  induction i with
  | zero => intro r0 x1 x2 M hres; exact am_no hres
  | succ i ih => intro r0 x1 x2 M hres; exact sn12_flows_b83B cx ih hres
set_option maxRecDepth 20000 in
theorem sn12_flows_b45B {l : Launch} {G : am_G} {M' : am_Mem} {N : Nat} {k45 : Nat → Int32 → Int32 → am_Mem → Option (Unit × am_Mem)} (cx : am_Ctx l rm12_flows yX12_flows cX12_flows 5 none none M' 0 0 G) (hk45 : ∀ (r0 : Nat) (x1 : Int32) (x2 : Int32) (M : am_Mem), k45 r0 x1 x2 M = some ((), M') → G 45 [(0, .inr (.inr r0)), (1, .inl x1), (2, .inl x2)] [] M 0 0) {r0 : Nat} {x1 : Int32} {x2 : Int32} {M : am_Mem} (hres : fn12_flows_b45B N k45 r0 x1 x2 M = some ((), M')) : G 45 [(0, .inr (.inr r0)), (1, .inl x1), (2, .inl x2)] [] M 0 0 := by
  unfold fn12_flows_b45B at hres
  refine am_iload_n cx 2 dX12_flows_45 rfl ?_
  refine am_bipush cx (v := (14 : Int32)) dX12_flows_46 (by decide) ?_
  refine am_icmp_ge cx (tgt := 69) dX12_flows_48 (by decide) (fun h => ?_) (fun h => ?_)
  · have hres := am_ifp h hres
    refine am_aload_n cx 0 dX12_flows_69 rfl ?_
    obtain ⟨q1, hres⟩ := am_ck_some hres
    refine am_getR cx dX12_flows_70 flX12_61 (am_ke q1) ?_
    refine am_iload_n cx 1 dX12_flows_73 rfl ?_
    obtain ⟨q2, hres⟩ := am_ck_some hres
    obtain ⟨q3, hres⟩ := am_ck_some hres
    refine am_lald cx dX12_flows_74 (am_ke q2) q3 ?_
    refine am_lconst cx (v := (0 : Int64)) dX12_flows_75 (by decide) ?_
    refine am_lcmp cx dX12_flows_76 ?_
    refine am_if_ne cx (tgt := 81) dX12_flows_77 (by decide) (fun h => ?_) (fun h => ?_)
    · have hres := am_ifn h hres
      refine am_iconst cx (v := (0 : Int32)) dX12_flows_81 (by decide) ?_
      refine am_istore_n cx (lv' := [(0, .inr (.inr r0)), (1, .inl x1), (2, .inl (0 : Int32))]) dX12_flows_82 (Nat.le_of_ble_eq_true rfl) rfl ?_
      exact sn12_flows_b83 cx  N _ _ _ _ hres
    · have hres := am_ifp h hres
      obtain ⟨-, rfl⟩ := am_fin hres
      exact am_vret cx dX12_flows_80
  · have hres := am_ifn h hres
    refine am_aload_n cx 0 dX12_flows_51 rfl ?_
    obtain ⟨q4, hres⟩ := am_ck_some hres
    refine am_getR cx dX12_flows_52 flX12_67 (am_ke q4) ?_
    refine am_bipush cx (v := (14 : Int32)) dX12_flows_55 (by decide) ?_
    refine am_iload_n cx 1 dX12_flows_57 rfl ?_
    refine am_imul cx dX12_flows_58 ?_
    refine am_iload_n cx 2 dX12_flows_59 rfl ?_
    refine am_iadd cx dX12_flows_60 ?_
    refine am_lconst cx (v := (0 : Int64)) dX12_flows_61 (by decide) ?_
    obtain ⟨q5, hres⟩ := am_ck_some hres
    obtain ⟨q6, hres⟩ := am_ck_some hres
    refine am_last cx dX12_flows_62 (am_ke q5) q6  ?_
    refine am_iincw cx (lv' := [(0, .inr (.inr r0)), (1, .inl x1), (2, .inl (x2 + (1 : Int32)))]) (w := (1 : Int32)) 2 dX12_flows_63 (by decide) rfl (Nat.le_of_ble_eq_true rfl) rfl ?_
    refine am_goto cx (tgt := 45) dX12_flows_66 (by decide) ?_
    exact hk45 _ _ _ _ hres
set_option maxRecDepth 20000 in
theorem sn12_flows_b45 {l : Launch} {G : am_G} {M' : am_Mem} {N : Nat}  (cx : am_Ctx l rm12_flows yX12_flows cX12_flows 5 none none M' 0 0 G)  (i : Nat) : ∀ (r0 : Nat) (x1 : Int32) (x2 : Int32) (M : am_Mem), fn12_flows_b45 N  i r0 x1 x2 M = some ((), M') → G 45 [(0, .inr (.inr r0)), (1, .inl x1), (2, .inl x2)] [] M 0 0 := by
  induction i with
  | zero => intro r0 x1 x2 M hres; exact am_no hres
  | succ i ih => intro r0 x1 x2 M hres; exact sn12_flows_b45B cx ih hres
set_option maxRecDepth 20000 in
theorem sn12_flows_b19B {l : Launch} {G : am_G} {M' : am_Mem} {N : Nat} {k19 : Nat → Int32 → Int32 → am_Mem → Option (Unit × am_Mem)} (cx : am_Ctx l rm12_flows yX12_flows cX12_flows 5 none none M' 0 0 G) (hk19 : ∀ (r0 : Nat) (x1 : Int32) (x2 : Int32) (M : am_Mem), k19 r0 x1 x2 M = some ((), M') → G 19 [(0, .inr (.inr r0)), (1, .inl x1), (2, .inl x2)] [] M 0 0) {r0 : Nat} {x1 : Int32} {x2 : Int32} {M : am_Mem} (hres : fn12_flows_b19B N k19 r0 x1 x2 M = some ((), M')) : G 19 [(0, .inr (.inr r0)), (1, .inl x1), (2, .inl x2)] [] M 0 0 := by
  unfold fn12_flows_b19B at hres
  refine am_iload_n cx 2 dX12_flows_19 rfl ?_
  refine am_bipush cx (v := (9 : Int32)) dX12_flows_20 (by decide) ?_
  refine am_icmp_ge cx (tgt := 43) dX12_flows_22 (by decide) (fun h => ?_) (fun h => ?_)
  · have hres := am_ifp h hres
    refine am_iconst cx (v := (0 : Int32)) dX12_flows_43 (by decide) ?_
    refine am_istore_n cx (lv' := [(0, .inr (.inr r0)), (1, .inl x1), (2, .inl (0 : Int32))]) dX12_flows_44 (Nat.le_of_ble_eq_true rfl) rfl ?_
    exact sn12_flows_b45 cx  N _ _ _ _ hres
  · have hres := am_ifn h hres
    refine am_aload_n cx 0 dX12_flows_25 rfl ?_
    obtain ⟨q1, hres⟩ := am_ck_some hres
    refine am_getR cx dX12_flows_26 flX12_64 (am_ke q1) ?_
    refine am_bipush cx (v := (9 : Int32)) dX12_flows_29 (by decide) ?_
    refine am_iload_n cx 1 dX12_flows_31 rfl ?_
    refine am_imul cx dX12_flows_32 ?_
    refine am_iload_n cx 2 dX12_flows_33 rfl ?_
    refine am_iadd cx dX12_flows_34 ?_
    refine am_lconst cx (v := (0 : Int64)) dX12_flows_35 (by decide) ?_
    obtain ⟨q2, hres⟩ := am_ck_some hres
    obtain ⟨q3, hres⟩ := am_ck_some hres
    refine am_last cx dX12_flows_36 (am_ke q2) q3  ?_
    refine am_iincw cx (lv' := [(0, .inr (.inr r0)), (1, .inl x1), (2, .inl (x2 + (1 : Int32)))]) (w := (1 : Int32)) 2 dX12_flows_37 (by decide) rfl (Nat.le_of_ble_eq_true rfl) rfl ?_
    refine am_goto cx (tgt := 19) dX12_flows_40 (by decide) ?_
    exact hk19 _ _ _ _ hres
set_option maxRecDepth 20000 in
theorem sn12_flows_b19 {l : Launch} {G : am_G} {M' : am_Mem} {N : Nat}  (cx : am_Ctx l rm12_flows yX12_flows cX12_flows 5 none none M' 0 0 G)  (i : Nat) : ∀ (r0 : Nat) (x1 : Int32) (x2 : Int32) (M : am_Mem), fn12_flows_b19 N  i r0 x1 x2 M = some ((), M') → G 19 [(0, .inr (.inr r0)), (1, .inl x1), (2, .inl x2)] [] M 0 0 := by
  induction i with
  | zero => intro r0 x1 x2 M hres; exact am_no hres
  | succ i ih => intro r0 x1 x2 M hres; exact sn12_flows_b19B cx ih hres
set_option maxRecDepth 20000 in
theorem sn12_flows_b0 {l : Launch} {G : am_G} {M' : am_Mem} {N : Nat}  (cx : am_Ctx l rm12_flows yX12_flows cX12_flows 5 none none M' 0 0 G)  {r0 : Nat} {x1 : Int32} {M : am_Mem} (hres : fn12_flows_b0 N  r0 x1 M = some ((), M')) : G 0 [(0, .inr (.inr r0)), (1, .inl x1)] [] M 0 0 := by
  unfold fn12_flows_b0 at hres
  refine am_aload_n cx 0 dX12_flows_0 rfl ?_
  obtain ⟨q1, hres⟩ := am_ck_some hres
  refine am_getR cx dX12_flows_1 flX12_61 (am_ke q1) ?_
  refine am_iload_n cx 1 dX12_flows_4 rfl ?_
  refine am_aload_n cx 0 dX12_flows_5 rfl ?_
  refine am_aload_n cx 0 dX12_flows_6 rfl ?_
  refine am_iload_n cx 1 dX12_flows_7 rfl ?_
  refine am_iconst cx (v := (-1 : Int32)) dX12_flows_8 (by decide) ?_
  refine am_iconst cx (v := (-1 : Int32)) dX12_flows_9 (by decide) ?_
  obtain ⟨v2, M3, q4, hres⟩ := am_bd_some hres
  refine am_callV1 cx [.inl x1, .inl (-1 : Int32), .inl (-1 : Int32)] dX12_flows_10 cvX12_252 (mt12_laysMatrix q4) (am_ke q1) ⟨rfl, rfl, Nat.le_of_ble_eq_true rfl, Nat.le_of_ble_eq_true rfl⟩ rfl (Nat.le_of_ble_eq_true rfl) ⟨Nat.le_of_ble_eq_true rfl, Nat.le_of_ble_eq_true rfl⟩ ?_
  obtain ⟨q5, hres⟩ := am_ck_some hres
  obtain ⟨v6, M7, q8, hres⟩ := am_bd_some hres
  refine am_callV1 cx [.inl v2] dX12_flows_13 cvX12_256 (mt12_determinant q8) (am_ke q5) ⟨rfl, rfl, Nat.le_of_ble_eq_true rfl, Nat.le_of_ble_eq_true rfl⟩ rfl (Nat.le_of_ble_eq_true rfl) ⟨Nat.le_of_ble_eq_true rfl, Nat.le_of_ble_eq_true rfl⟩ ?_
  obtain ⟨q9, hres⟩ := am_ck_some hres
  obtain ⟨q10, hres⟩ := am_ck_some hres
  refine am_last cx dX12_flows_16 (am_ke q9) q10  ?_
  refine am_iconst cx (v := (0 : Int32)) dX12_flows_17 (by decide) ?_
  refine am_istore_n cx (lv' := [(0, .inr (.inr r0)), (1, .inl x1), (2, .inl (0 : Int32))]) dX12_flows_18 (Nat.le_of_ble_eq_true rfl) rfl ?_
  exact sn12_flows_b19 cx  N _ _ _ _ hres
set_option maxRecDepth 20000 in
theorem mt12_flows {l : Launch} {M M' : am_Mem} {N : Nat} {r0 : Nat} {x1 : Int32} (h : fn12_flows N M r0 x1 = some ((), M')) : am_Met l yX12_flows cX12_flows 5 none rm12_flows 0 0 [.inr (.inr r0), .inl x1] M none M' := am_mk (by decide) (Nat.le_of_ble_eq_true rfl) (fun G cx => (sn12_flows_b0 cx h))
-- SquareCutsModel.nets
def fn12_nets_b111 (N : Nat)  (r0 : Nat) (x1 : Int32) (M : am_Mem) : Option (Unit × am_Mem) :=
  am_ck (am_k M r0 12) (am_bd (fn12_fails N M r0 x1) (fun v2 M3 => some ((), M3)))
def fn12_nets_b81 (N : Nat) (k45 : Nat → Int32 → Int32 → am_Mem → Option (Unit × am_Mem)) (c0 : Nat) (a1 : Int32) (a2 : Int32) (r0 : Nat) (x1 : Int32) (x2 : Int32) (M : am_Mem) : Option (Unit × am_Mem) :=
  am_ck (am_k M c0 12) (k45 r0 x1 (x2 + (1 : Int32)) (am_wI M c0 38 (a1 + a2)))
def fn12_nets_b45B (N : Nat) (k45 : Nat → Int32 → Int32 → am_Mem → Option (Unit × am_Mem)) (r0 : Nat) (x1 : Int32) (x2 : Int32) (M : am_Mem) : Option (Unit × am_Mem) :=
  am_ck (am_k M r0 12) (am_ck (am_k M (am_R M r0 25) 14) (am_ck (am_in x1 (am_L M (am_R M r0 25))) (if (am_I M (am_R M r0 25) x1.toNatClampNeg) ≤ x2 then am_ck (am_k M (am_R M r0 29) 15) (am_ck (am_in x1 (am_L M (am_R M r0 29))) (if (lg_cmp (am_J M (am_R M r0 29) x1.toNatClampNeg) (0 : Int64)) = 0 then fn12_nets_b111 N  r0 x1 M else am_bd (fn12_goes N 20 M r0 x1 (0 : Int32)) (fun v6 M7 => if v6 = 0 then fn12_nets_b111 N  r0 x1 M7 else am_ck (am_k M7 r0 12) (am_bd (fn12_put M7 r0 x1 (0 : Int32) (am_I M7 r0 38)) (fun v10 M11 => am_ck (am_k M11 r0 12) (am_bd (fn12_put M11 r0 x1 (1 : Int32) (am_I M11 r0 35)) (fun v14 M15 => am_ck (am_k M15 r0 12) (am_ck (am_k M15 (am_R M15 r0 30) 15) (am_ck (am_in ((9 : Int32) * x1) (am_L M15 (am_R M15 r0 30))) (am_bd (fn12_put M15 r0 x1 (2 : Int32) ((am_J M15 (am_R M15 r0 30) ((9 : Int32) * x1).toNatClampNeg).toInt32)) (fun v20 M21 => some ((), M21)))))))))))) else am_ck (am_k M (am_R M r0 31) 15) (am_ck (am_in (((14 : Int32) * x1) + x2) (am_L M (am_R M r0 31))) (if (lg_cmp (am_J M (am_R M r0 31) (((14 : Int32) * x1) + x2).toNatClampNeg) (0 : Int64)) = 0 then fn12_nets_b81 N k45 r0 (am_I M r0 38) (0 : Int32) r0 x1 x2 M else fn12_nets_b81 N k45 r0 (am_I M r0 38) (1 : Int32) r0 x1 x2 M)))))
def fn12_nets_b45 (N : Nat)  : Nat → Nat → Int32 → Int32 → am_Mem → Option (Unit × am_Mem)
  | 0 => fun _ _ _ _ => none
  | i + 1 => fn12_nets_b45B N (fn12_nets_b45 N  i)
def fn12_nets_b24B (N : Nat) (k24 : Nat → Int32 → Int32 → am_Mem → Option (Unit × am_Mem)) (r0 : Nat) (x1 : Int32) (x2 : Int32) (M : am_Mem) : Option (Unit × am_Mem) :=
  if (14 : Int32) ≤ x2 then fn12_nets_b45 N  N r0 x1 (0 : Int32) M else am_ck (am_k M r0 12) (am_ck (am_k M (am_R M r0 37) 16) (am_ck (am_in x2 (am_L M (am_R M r0 37))) (k24 r0 x1 (x2 + (1 : Int32)) (am_wI M (am_R M r0 37) x2.toNatClampNeg ((0 : Int32) &&& 1)))))
def fn12_nets_b24 (N : Nat)  : Nat → Nat → Int32 → Int32 → am_Mem → Option (Unit × am_Mem)
  | 0 => fun _ _ _ _ => none
  | i + 1 => fn12_nets_b24B N (fn12_nets_b24 N  i)
def fn12_nets_b0 (N : Nat)  (r0 : Nat) (x1 : Int32) (M : am_Mem) : Option (Unit × am_Mem) :=
  am_ck (am_k M r0 12) (am_bd (fn12_flows N M r0 x1) (fun v2 M3 => am_ck (am_k M3 r0 12) (am_ck (am_k M3 (am_R M3 r0 28) 14) (am_ck (am_in x1 (am_L M3 (am_R M3 r0 28))) (fn12_nets_b24 N  N r0 x1 (0 : Int32) (am_wI (am_wI (am_wI M3 (am_R M3 r0 28) x1.toNatClampNeg (0 : Int32)) r0 39 (0 : Int32)) r0 38 (0 : Int32)))))))
def fn12_nets (N : Nat) (M : am_Mem) (r0 : Nat) (x1 : Int32) : Option (Unit × am_Mem) := fn12_nets_b0 N r0 x1 M
def rm12_nets : Room := { frames := 24, cells := 0, slots := 0, locals := 636 }
set_option maxRecDepth 20000 in
theorem sn12_nets_b111 {l : Launch} {G : am_G} {M' : am_Mem} {N : Nat}  (cx : am_Ctx l rm12_nets yX12_nets cX12_nets 3 none none M' 0 0 G)  {r0 : Nat} {x1 : Int32} {M : am_Mem} (hres : fn12_nets_b111 N  r0 x1 M = some ((), M')) : G 111 [(0, .inr (.inr r0)), (1, .inl x1)] [] M 0 0 := by
  unfold fn12_nets_b111 at hres
  refine am_aload_n cx 0 dX12_nets_111 rfl ?_
  refine am_iload_n cx 1 dX12_nets_112 rfl ?_
  obtain ⟨q1, hres⟩ := am_ck_some hres
  obtain ⟨v2, M3, q4, hres⟩ := am_bd_some hres
  refine am_callV0 cx [.inl x1] dX12_nets_113 cvX12_235 (mt12_fails q4) (am_ke q1) ⟨rfl, rfl, Nat.le_of_ble_eq_true rfl, Nat.le_of_ble_eq_true rfl⟩ rfl (Nat.le_of_ble_eq_true rfl) ⟨Nat.le_of_ble_eq_true rfl, Nat.le_of_ble_eq_true rfl⟩ ?_
  obtain ⟨-, rfl⟩ := am_fin hres
  exact am_vret cx dX12_nets_116
set_option maxRecDepth 20000 in
theorem sn12_nets_b81 {l : Launch} {G : am_G} {M' : am_Mem} {N : Nat} {k45 : Nat → Int32 → Int32 → am_Mem → Option (Unit × am_Mem)} (cx : am_Ctx l rm12_nets yX12_nets cX12_nets 3 none none M' 0 0 G) (hk45 : ∀ (r0 : Nat) (x1 : Int32) (x2 : Int32) (M : am_Mem), k45 r0 x1 x2 M = some ((), M') → G 45 [(0, .inr (.inr r0)), (1, .inl x1), (2, .inl x2)] [] M 0 0) {c0 : Nat} {a1 : Int32} {a2 : Int32} {r0 : Nat} {x1 : Int32} {x2 : Int32} {M : am_Mem} (hres : fn12_nets_b81 N k45 c0 a1 a2 r0 x1 x2 M = some ((), M')) : G 81 [(0, .inr (.inr r0)), (1, .inl x1), (2, .inl x2)] [.inl a2, .inl a1, .inr (.inr c0)] M 0 0 := by
  unfold fn12_nets_b81 at hres
  refine am_iadd cx dX12_nets_81 ?_
  obtain ⟨q1, hres⟩ := am_ck_some hres
  refine am_putI cx dX12_nets_82 fpX12_264 (fun h => by cases h) (am_ke q1) ?_
  refine am_iincw cx (lv' := [(0, .inr (.inr r0)), (1, .inl x1), (2, .inl (x2 + (1 : Int32)))]) (w := (1 : Int32)) 2 dX12_nets_85 (by decide) rfl (Nat.le_of_ble_eq_true rfl) rfl ?_
  refine am_goto cx (tgt := 45) dX12_nets_88 (by decide) ?_
  exact hk45 _ _ _ _ hres
set_option maxRecDepth 20000 in
theorem sn12_nets_b45B {l : Launch} {G : am_G} {M' : am_Mem} {N : Nat} {k45 : Nat → Int32 → Int32 → am_Mem → Option (Unit × am_Mem)} (cx : am_Ctx l rm12_nets yX12_nets cX12_nets 3 none none M' 0 0 G) (hk45 : ∀ (r0 : Nat) (x1 : Int32) (x2 : Int32) (M : am_Mem), k45 r0 x1 x2 M = some ((), M') → G 45 [(0, .inr (.inr r0)), (1, .inl x1), (2, .inl x2)] [] M 0 0) {r0 : Nat} {x1 : Int32} {x2 : Int32} {M : am_Mem} (hres : fn12_nets_b45B N k45 r0 x1 x2 M = some ((), M')) : G 45 [(0, .inr (.inr r0)), (1, .inl x1), (2, .inl x2)] [] M 0 0 := by
  unfold fn12_nets_b45B at hres
  refine am_iload_n cx 2 dX12_nets_45 rfl ?_
  refine am_aload_n cx 0 dX12_nets_46 rfl ?_
  obtain ⟨q1, hres⟩ := am_ck_some hres
  refine am_getR cx dX12_nets_47 flX12_49 (am_ke q1) ?_
  refine am_iload_n cx 1 dX12_nets_50 rfl ?_
  obtain ⟨q2, hres⟩ := am_ck_some hres
  obtain ⟨q3, hres⟩ := am_ck_some hres
  refine am_iald cx dX12_nets_51 (am_ke q2) q3 ?_
  refine am_icmp_ge cx (tgt := 91) dX12_nets_52 (by decide) (fun h => ?_) (fun h => ?_)
  · have hres := am_ifp h hres
    refine am_aload_n cx 0 dX12_nets_91 rfl ?_
    refine am_getR cx dX12_nets_92 flX12_61 (am_ke q1) ?_
    refine am_iload_n cx 1 dX12_nets_95 rfl ?_
    obtain ⟨q4, hres⟩ := am_ck_some hres
    obtain ⟨q5, hres⟩ := am_ck_some hres
    refine am_lald cx dX12_nets_96 (am_ke q4) q5 ?_
    refine am_lconst cx (v := (0 : Int64)) dX12_nets_97 (by decide) ?_
    refine am_lcmp cx dX12_nets_98 ?_
    refine am_if_eq cx (tgt := 111) dX12_nets_99 (by decide) (fun h => ?_) (fun h => ?_)
    · have hres := am_ifp h hres
      refine am_sub cx [0, 1] rfl ?_
      exact sn12_nets_b111 cx  hres
    · have hres := am_ifn h hres
      refine am_aload_n cx 0 dX12_nets_102 rfl ?_
      refine am_iload_n cx 1 dX12_nets_103 rfl ?_
      refine am_iconst cx (v := (0 : Int32)) dX12_nets_104 (by decide) ?_
      obtain ⟨v6, M7, q8, hres⟩ := am_bd_some hres
      refine am_callV1 cx [.inl x1, .inl (0 : Int32)] dX12_nets_105 cvX12_278 (mt12_goes 20 q8) (am_ke q1) ⟨rfl, rfl, Nat.le_of_ble_eq_true rfl, Nat.le_of_ble_eq_true rfl⟩ rfl (Nat.le_of_ble_eq_true rfl) ⟨Nat.le_of_ble_eq_true rfl, Nat.le_of_ble_eq_true rfl⟩ ?_
      refine am_if_ne cx (tgt := 117) dX12_nets_108 (by decide) (fun h => ?_) (fun h => ?_)
      · have hres := am_ifn h hres
        refine am_aload_n cx 0 dX12_nets_117 rfl ?_
        refine am_iload_n cx 1 dX12_nets_118 rfl ?_
        refine am_iconst cx (v := (0 : Int32)) dX12_nets_119 (by decide) ?_
        refine am_aload_n cx 0 dX12_nets_120 rfl ?_
        obtain ⟨q9, hres⟩ := am_ck_some hres
        refine am_getI cx dX12_nets_121 flX12_264 (am_ke q9) ?_
        obtain ⟨v10, M11, q12, hres⟩ := am_bd_some hres
        refine am_callV0 cx [.inl x1, .inl (0 : Int32), .inl (am_I M7 r0 38)] dX12_nets_124 cvX12_226 (mt12_put q12) (am_ke q9) ⟨rfl, rfl, Nat.le_of_ble_eq_true rfl, Nat.le_of_ble_eq_true rfl⟩ rfl (Nat.le_of_ble_eq_true rfl) ⟨Nat.le_of_ble_eq_true rfl, Nat.le_of_ble_eq_true rfl⟩ ?_
        refine am_aload_n cx 0 dX12_nets_127 rfl ?_
        refine am_iload_n cx 1 dX12_nets_128 rfl ?_
        refine am_iconst cx (v := (1 : Int32)) dX12_nets_129 (by decide) ?_
        refine am_aload_n cx 0 dX12_nets_130 rfl ?_
        obtain ⟨q13, hres⟩ := am_ck_some hres
        refine am_getI cx dX12_nets_131 flX12_209 (am_ke q13) ?_
        obtain ⟨v14, M15, q16, hres⟩ := am_bd_some hres
        refine am_callV0 cx [.inl x1, .inl (1 : Int32), .inl (am_I M11 r0 35)] dX12_nets_134 cvX12_226 (mt12_put q16) (am_ke q13) ⟨rfl, rfl, Nat.le_of_ble_eq_true rfl, Nat.le_of_ble_eq_true rfl⟩ rfl (Nat.le_of_ble_eq_true rfl) ⟨Nat.le_of_ble_eq_true rfl, Nat.le_of_ble_eq_true rfl⟩ ?_
        refine am_aload_n cx 0 dX12_nets_137 rfl ?_
        refine am_iload_n cx 1 dX12_nets_138 rfl ?_
        refine am_iconst cx (v := (2 : Int32)) dX12_nets_139 (by decide) ?_
        refine am_aload_n cx 0 dX12_nets_140 rfl ?_
        obtain ⟨q17, hres⟩ := am_ck_some hres
        refine am_getR cx dX12_nets_141 flX12_64 (am_ke q17) ?_
        refine am_bipush cx (v := (9 : Int32)) dX12_nets_144 (by decide) ?_
        refine am_iload_n cx 1 dX12_nets_146 rfl ?_
        refine am_imul cx dX12_nets_147 ?_
        obtain ⟨q18, hres⟩ := am_ck_some hres
        obtain ⟨q19, hres⟩ := am_ck_some hres
        refine am_lald cx dX12_nets_148 (am_ke q18) q19 ?_
        refine am_l2i cx dX12_nets_149 ?_
        obtain ⟨v20, M21, q22, hres⟩ := am_bd_some hres
        refine am_callV0 cx [.inl x1, .inl (2 : Int32), .inl (am_J M15 (am_R M15 r0 30) ((9 : Int32) * x1).toNatClampNeg).toInt32] dX12_nets_150 cvX12_226 (mt12_put q22) (am_ke q17) ⟨rfl, rfl, Nat.le_of_ble_eq_true rfl, Nat.le_of_ble_eq_true rfl⟩ rfl (Nat.le_of_ble_eq_true rfl) ⟨Nat.le_of_ble_eq_true rfl, Nat.le_of_ble_eq_true rfl⟩ ?_
        obtain ⟨-, rfl⟩ := am_fin hres
        exact am_vret cx dX12_nets_153
      · have hres := am_ifp h hres
        refine am_sub cx [0, 1] rfl ?_
        exact sn12_nets_b111 cx  hres
  · have hres := am_ifn h hres
    refine am_aload_n cx 0 dX12_nets_55 rfl ?_
    refine am_dup cx dX12_nets_56 rfl ?_
    refine am_getI cx dX12_nets_57 flX12_264 (am_ke q1) ?_
    refine am_aload_n cx 0 dX12_nets_60 rfl ?_
    refine am_getR cx dX12_nets_61 flX12_67 (am_ke q1) ?_
    refine am_bipush cx (v := (14 : Int32)) dX12_nets_64 (by decide) ?_
    refine am_iload_n cx 1 dX12_nets_66 rfl ?_
    refine am_imul cx dX12_nets_67 ?_
    refine am_iload_n cx 2 dX12_nets_68 rfl ?_
    refine am_iadd cx dX12_nets_69 ?_
    obtain ⟨q23, hres⟩ := am_ck_some hres
    obtain ⟨q24, hres⟩ := am_ck_some hres
    refine am_lald cx dX12_nets_70 (am_ke q23) q24 ?_
    refine am_lconst cx (v := (0 : Int64)) dX12_nets_71 (by decide) ?_
    refine am_lcmp cx dX12_nets_72 ?_
    refine am_if_eq cx (tgt := 80) dX12_nets_73 (by decide) (fun h => ?_) (fun h => ?_)
    · have hres := am_ifp h hres
      refine am_iconst cx (v := (0 : Int32)) dX12_nets_80 (by decide) ?_
      exact sn12_nets_b81 cx hk45 hres
    · have hres := am_ifn h hres
      refine am_iconst cx (v := (1 : Int32)) dX12_nets_76 (by decide) ?_
      refine am_goto cx (tgt := 81) dX12_nets_77 (by decide) ?_
      exact sn12_nets_b81 cx hk45 hres
set_option maxRecDepth 20000 in
theorem sn12_nets_b45 {l : Launch} {G : am_G} {M' : am_Mem} {N : Nat}  (cx : am_Ctx l rm12_nets yX12_nets cX12_nets 3 none none M' 0 0 G)  (i : Nat) : ∀ (r0 : Nat) (x1 : Int32) (x2 : Int32) (M : am_Mem), fn12_nets_b45 N  i r0 x1 x2 M = some ((), M') → G 45 [(0, .inr (.inr r0)), (1, .inl x1), (2, .inl x2)] [] M 0 0 := by
  induction i with
  | zero => intro r0 x1 x2 M hres; exact am_no hres
  | succ i ih => intro r0 x1 x2 M hres; exact sn12_nets_b45B cx ih hres
set_option maxRecDepth 20000 in
theorem sn12_nets_b24B {l : Launch} {G : am_G} {M' : am_Mem} {N : Nat} {k24 : Nat → Int32 → Int32 → am_Mem → Option (Unit × am_Mem)} (cx : am_Ctx l rm12_nets yX12_nets cX12_nets 3 none none M' 0 0 G) (hk24 : ∀ (r0 : Nat) (x1 : Int32) (x2 : Int32) (M : am_Mem), k24 r0 x1 x2 M = some ((), M') → G 24 [(0, .inr (.inr r0)), (1, .inl x1), (2, .inl x2)] [] M 0 0) {r0 : Nat} {x1 : Int32} {x2 : Int32} {M : am_Mem} (hres : fn12_nets_b24B N k24 r0 x1 x2 M = some ((), M')) : G 24 [(0, .inr (.inr r0)), (1, .inl x1), (2, .inl x2)] [] M 0 0 := by
  unfold fn12_nets_b24B at hres
  refine am_iload_n cx 2 dX12_nets_24 rfl ?_
  refine am_bipush cx (v := (14 : Int32)) dX12_nets_25 (by decide) ?_
  refine am_icmp_ge cx (tgt := 43) dX12_nets_27 (by decide) (fun h => ?_) (fun h => ?_)
  · have hres := am_ifp h hres
    refine am_iconst cx (v := (0 : Int32)) dX12_nets_43 (by decide) ?_
    refine am_istore_n cx (lv' := [(0, .inr (.inr r0)), (1, .inl x1), (2, .inl (0 : Int32))]) dX12_nets_44 (Nat.le_of_ble_eq_true rfl) rfl ?_
    exact sn12_nets_b45 cx  N _ _ _ _ hres
  · have hres := am_ifn h hres
    refine am_aload_n cx 0 dX12_nets_30 rfl ?_
    obtain ⟨q1, hres⟩ := am_ck_some hres
    refine am_getR cx dX12_nets_31 flX12_82 (am_ke q1) ?_
    refine am_iload_n cx 2 dX12_nets_34 rfl ?_
    refine am_iconst cx (v := (0 : Int32)) dX12_nets_35 (by decide) ?_
    obtain ⟨q2, hres⟩ := am_ck_some hres
    obtain ⟨q3, hres⟩ := am_ck_some hres
    refine am_zast cx dX12_nets_36 (am_ke q2) q3  ?_
    refine am_iincw cx (lv' := [(0, .inr (.inr r0)), (1, .inl x1), (2, .inl (x2 + (1 : Int32)))]) (w := (1 : Int32)) 2 dX12_nets_37 (by decide) rfl (Nat.le_of_ble_eq_true rfl) rfl ?_
    refine am_goto cx (tgt := 24) dX12_nets_40 (by decide) ?_
    exact hk24 _ _ _ _ hres
set_option maxRecDepth 20000 in
theorem sn12_nets_b24 {l : Launch} {G : am_G} {M' : am_Mem} {N : Nat}  (cx : am_Ctx l rm12_nets yX12_nets cX12_nets 3 none none M' 0 0 G)  (i : Nat) : ∀ (r0 : Nat) (x1 : Int32) (x2 : Int32) (M : am_Mem), fn12_nets_b24 N  i r0 x1 x2 M = some ((), M') → G 24 [(0, .inr (.inr r0)), (1, .inl x1), (2, .inl x2)] [] M 0 0 := by
  induction i with
  | zero => intro r0 x1 x2 M hres; exact am_no hres
  | succ i ih => intro r0 x1 x2 M hres; exact sn12_nets_b24B cx ih hres
set_option maxRecDepth 20000 in
theorem sn12_nets_b0 {l : Launch} {G : am_G} {M' : am_Mem} {N : Nat}  (cx : am_Ctx l rm12_nets yX12_nets cX12_nets 3 none none M' 0 0 G)  {r0 : Nat} {x1 : Int32} {M : am_Mem} (hres : fn12_nets_b0 N  r0 x1 M = some ((), M')) : G 0 [(0, .inr (.inr r0)), (1, .inl x1)] [] M 0 0 := by
  unfold fn12_nets_b0 at hres
  refine am_aload_n cx 0 dX12_nets_0 rfl ?_
  refine am_iload_n cx 1 dX12_nets_1 rfl ?_
  obtain ⟨q1, hres⟩ := am_ck_some hres
  obtain ⟨v2, M3, q4, hres⟩ := am_bd_some hres
  refine am_callV0 cx [.inl x1] dX12_nets_2 cvX12_282 (mt12_flows q4) (am_ke q1) ⟨rfl, rfl, Nat.le_of_ble_eq_true rfl, Nat.le_of_ble_eq_true rfl⟩ rfl (Nat.le_of_ble_eq_true rfl) ⟨Nat.le_of_ble_eq_true rfl, Nat.le_of_ble_eq_true rfl⟩ ?_
  refine am_aload_n cx 0 dX12_nets_5 rfl ?_
  obtain ⟨q5, hres⟩ := am_ck_some hres
  refine am_getR cx dX12_nets_6 flX12_58 (am_ke q5) ?_
  refine am_iload_n cx 1 dX12_nets_9 rfl ?_
  refine am_iconst cx (v := (0 : Int32)) dX12_nets_10 (by decide) ?_
  obtain ⟨q6, hres⟩ := am_ck_some hres
  obtain ⟨q7, hres⟩ := am_ck_some hres
  refine am_iast cx dX12_nets_11 (am_ke q6) q7  ?_
  refine am_aload_n cx 0 dX12_nets_12 rfl ?_
  refine am_iconst cx (v := (0 : Int32)) dX12_nets_13 (by decide) ?_
  refine am_putZ cx dX12_nets_14 fpX12_267 (fun h => by cases h) rfl (am_ke q5) ?_
  refine am_aload_n cx 0 dX12_nets_17 rfl ?_
  refine am_iconst cx (v := (0 : Int32)) dX12_nets_18 (by decide) ?_
  refine am_putI cx dX12_nets_19 fpX12_264 (fun h => by cases h) (am_ke q5) ?_
  refine am_iconst cx (v := (0 : Int32)) dX12_nets_22 (by decide) ?_
  refine am_istore_n cx (lv' := [(0, .inr (.inr r0)), (1, .inl x1), (2, .inl (0 : Int32))]) dX12_nets_23 (Nat.le_of_ble_eq_true rfl) rfl ?_
  exact sn12_nets_b24 cx  N _ _ _ _ hres
set_option maxRecDepth 20000 in
theorem mt12_nets {l : Launch} {M M' : am_Mem} {N : Nat} {r0 : Nat} {x1 : Int32} (h : fn12_nets N M r0 x1 = some ((), M')) : am_Met l yX12_nets cX12_nets 3 none rm12_nets 0 0 [.inr (.inr r0), .inl x1] M none M' := am_mk (by decide) (Nat.le_of_ble_eq_true rfl) (fun G cx => (sn12_nets_b0 cx h))
-- SquareCutsModel.takesOver
def fn12_takesOver_b192 (N : Nat) (k18 : Nat → Int32 → am_Mem → Option (Unit × am_Mem)) (r0 : Nat) (x1 : Int32) (M : am_Mem) : Option (Unit × am_Mem) :=
  k18 r0 (x1 + (1 : Int32)) M
def fn12_takesOver_b115B (N : Nat) (k18 : Nat → Int32 → am_Mem → Option (Unit × am_Mem)) (k115 : Nat → Int32 → Int32 → am_Mem → Option (Unit × am_Mem)) (r0 : Nat) (x1 : Int32) (x2 : Int32) (M : am_Mem) : Option (Unit × am_Mem) :=
  if (28 : Int32) ≤ x2 then am_ck (am_k M r0 12) (am_ck (am_k M (am_R M r0 27) 14) (am_ck (am_in x1 (am_L M (am_R M r0 27))) (am_ck (am_k M (am_R M r0 28) 14) (am_ck (am_in x1 (am_L M (am_R M r0 28))) (am_ck (am_k M (am_R M r0 29) 15) (am_ck (am_in x1 (am_L M (am_R M r0 29))) (am_ck (am_k M (am_R M r0 23) 14) (am_ck (am_in x1 (am_L M (am_R M r0 23))) (if (am_I (am_wI (am_wI M (am_R M r0 27) x1.toNatClampNeg (0 : Int32)) (am_R M r0 28) x1.toNatClampNeg (0 : Int32)) (am_R M r0 23) x1.toNatClampNeg) = 0 then am_bd (fn12_draws N (am_wJ (am_wI (am_wI M (am_R M r0 27) x1.toNatClampNeg (0 : Int32)) (am_R M r0 28) x1.toNatClampNeg (0 : Int32)) (am_R M r0 29) x1.toNatClampNeg (0 : Int64)) r0 x1) (fun v13 M14 => fn12_takesOver_b192 N k18 r0 x1 M14) else am_bd (fn12_nets N (am_wJ (am_wI (am_wI M (am_R M r0 27) x1.toNatClampNeg (0 : Int32)) (am_R M r0 28) x1.toNatClampNeg (0 : Int32)) (am_R M r0 29) x1.toNatClampNeg (0 : Int64)) r0 x1) (fun v10 M11 => fn12_takesOver_b192 N k18 r0 x1 M11)))))))))) else am_ck (am_k M r0 12) (am_ck (am_k M (am_R M r0 16) 14) (am_ck (am_in (((29 : Int32) * x1) + x2) (am_L M (am_R M r0 16))) (am_ck (am_k M (am_R M r0 26) 14) (am_ck (am_in (((28 : Int32) * x1) + x2) (am_L M (am_R M r0 26))) (k115 r0 x1 (x2 + (1 : Int32)) (am_wI M (am_R M r0 26) (((28 : Int32) * x1) + x2).toNatClampNeg (am_I M (am_R M r0 16) (((29 : Int32) * x1) + x2).toNatClampNeg)))))))
def fn12_takesOver_b115 (N : Nat) (k18 : Nat → Int32 → am_Mem → Option (Unit × am_Mem)) : Nat → Nat → Int32 → Int32 → am_Mem → Option (Unit × am_Mem)
  | 0 => fun _ _ _ _ => none
  | i + 1 => fn12_takesOver_b115B N k18 (fn12_takesOver_b115 N k18 i)
def fn12_takesOver_b112 (N : Nat) (k18 : Nat → Int32 → am_Mem → Option (Unit × am_Mem)) (c0 : Nat) (a1 : Int32) (a2 : Int32) (r0 : Nat) (x1 : Int32) (M : am_Mem) : Option (Unit × am_Mem) :=
  am_ck (am_k M c0 14) (am_ck (am_in a1 (am_L M c0)) (fn12_takesOver_b115 N k18 N r0 x1 (0 : Int32) (am_wI M c0 a1.toNatClampNeg a2)))
def fn12_takesOver_b84 (N : Nat) (k18 : Nat → Int32 → am_Mem → Option (Unit × am_Mem)) (c0 : Nat) (a1 : Int32) (a2 : Int32) (r0 : Nat) (x1 : Int32) (M : am_Mem) : Option (Unit × am_Mem) :=
  am_ck (am_k M c0 14) (am_ck (am_in a1 (am_L M c0)) (am_ck (am_k M r0 12) (am_ck (am_k M (am_R M r0 13) 14) (am_ck (am_in x1 (am_L M (am_R M r0 13))) (if (am_I (am_wI M c0 a1.toNatClampNeg a2) (am_R M r0 13) x1.toNatClampNeg) = (1 : Int32) then am_ck (am_k M (am_R M r0 14) 14) (am_ck (am_in x1 (am_L M (am_R M r0 14))) (fn12_takesOver_b112 N k18 (am_R M r0 25) x1 ((am_I (am_wI M c0 a1.toNatClampNeg a2) (am_R M r0 14) x1.toNatClampNeg) / (2 : Int32)) r0 x1 (am_wI M c0 a1.toNatClampNeg a2))) else fn12_takesOver_b112 N k18 (am_R M r0 25) x1 (0 : Int32) r0 x1 (am_wI M c0 a1.toNatClampNeg a2))))))
def fn12_takesOver_b28B (N : Nat) (k18 : Nat → Int32 → am_Mem → Option (Unit × am_Mem)) (k28 : Nat → Int32 → Int32 → am_Mem → Option (Unit × am_Mem)) (r0 : Nat) (x1 : Int32) (x2 : Int32) (M : am_Mem) : Option (Unit × am_Mem) :=
  if (124 : Int32) ≤ x2 then am_ck (am_k M r0 12) (am_ck (am_k M (am_R M r0 13) 14) (am_ck (am_in x1 (am_L M (am_R M r0 13))) (am_ck (am_k M (am_R M r0 23) 14) (am_ck (am_in x1 (am_L M (am_R M r0 23))) (am_ck (am_in x1 (am_L M (am_R M r0 13))) (if (am_I (am_wI M (am_R M r0 23) x1.toNatClampNeg (am_I M (am_R M r0 13) x1.toNatClampNeg)) (am_R M r0 13) x1.toNatClampNeg) = (1 : Int32) then am_ck (am_k M (am_R M r0 15) 14) (am_ck (am_in x1 (am_L M (am_R M r0 15))) (fn12_takesOver_b84 N k18 (am_R M r0 24) x1 (am_I (am_wI M (am_R M r0 23) x1.toNatClampNeg (am_I M (am_R M r0 13) x1.toNatClampNeg)) (am_R M r0 15) x1.toNatClampNeg) r0 x1 (am_wI M (am_R M r0 23) x1.toNatClampNeg (am_I M (am_R M r0 13) x1.toNatClampNeg)))) else fn12_takesOver_b84 N k18 (am_R M r0 24) x1 (0 : Int32) r0 x1 (am_wI M (am_R M r0 23) x1.toNatClampNeg (am_I M (am_R M r0 13) x1.toNatClampNeg)))))))) else am_ck (am_k M r0 12) (am_bd (fn12_put M r0 x1 x2 (0 : Int32)) (fun v10 M11 => k28 r0 x1 (x2 + (1 : Int32)) M11))
def fn12_takesOver_b28 (N : Nat) (k18 : Nat → Int32 → am_Mem → Option (Unit × am_Mem)) : Nat → Nat → Int32 → Int32 → am_Mem → Option (Unit × am_Mem)
  | 0 => fun _ _ _ _ => none
  | i + 1 => fn12_takesOver_b28B N k18 (fn12_takesOver_b28 N k18 i)
def fn12_takesOver_b18B (N : Nat) (k18 : Nat → Int32 → am_Mem → Option (Unit × am_Mem)) (r0 : Nat) (x1 : Int32) (M : am_Mem) : Option (Unit × am_Mem) :=
  am_ck (am_k M r0 12) (if (am_I M r0 18) ≤ x1 then am_ck (am_k M (am_R M r0 22) 16) (am_ck (am_in (0 : Int32) (am_L M (am_R M r0 22))) (am_ck (am_in (1 : Int32) (am_L M (am_R M r0 22))) (some ((), (am_wI (am_wI (am_wI M r0 19 (0 : Int32)) (am_R M r0 22) (0 : Int32).toNatClampNeg ((0 : Int32) &&& 1)) (am_R M r0 22) (1 : Int32).toNatClampNeg ((0 : Int32) &&& 1)))))) else fn12_takesOver_b28 N k18 N r0 x1 (0 : Int32) M)
def fn12_takesOver_b18 (N : Nat)  : Nat → Nat → Int32 → am_Mem → Option (Unit × am_Mem)
  | 0 => fun _ _ _ => none
  | i + 1 => fn12_takesOver_b18B N (fn12_takesOver_b18 N  i)
def fn12_takesOver_b0 (N : Nat)  (r0 : Nat) (M : am_Mem) : Option (Unit × am_Mem) :=
  am_ck (am_k M r0 12) (fn12_takesOver_b18 N  N r0 (0 : Int32) (am_wI (am_wI M r0 18 (am_I M r0 11)) r0 40 (am_I (am_wI M r0 18 (am_I M r0 11)) r0 11)))
def fn12_takesOver (N : Nat) (M : am_Mem) (r0 : Nat) : Option (Unit × am_Mem) := fn12_takesOver_b0 N r0 M
def rm12_takesOver : Room := { frames := 25, cells := 0, slots := 0, locals := 658 }
set_option maxRecDepth 20000 in
theorem sn12_takesOver_b192 {l : Launch} {G : am_G} {M' : am_Mem} {N : Nat} {k18 : Nat → Int32 → am_Mem → Option (Unit × am_Mem)} (cx : am_Ctx l rm12_takesOver yX12_takesOver cX12_takesOver 3 none none M' 0 0 G) (hk18 : ∀ (r0 : Nat) (x1 : Int32) (M : am_Mem), k18 r0 x1 M = some ((), M') → G 18 [(0, .inr (.inr r0)), (1, .inl x1)] [] M 0 0) {r0 : Nat} {x1 : Int32} {M : am_Mem} (hres : fn12_takesOver_b192 N k18 r0 x1 M = some ((), M')) : G 192 [(0, .inr (.inr r0)), (1, .inl x1)] [] M 0 0 := by
  unfold fn12_takesOver_b192 at hres
  refine am_iincw cx (lv' := [(0, .inr (.inr r0)), (1, .inl (x1 + (1 : Int32)))]) (w := (1 : Int32)) 1 dX12_takesOver_192 (by decide) rfl (Nat.le_of_ble_eq_true rfl) rfl ?_
  refine am_goto cx (tgt := 18) dX12_takesOver_195 (by decide) ?_
  exact hk18 _ _ _ hres
set_option maxRecDepth 20000 in
theorem sn12_takesOver_b115B {l : Launch} {G : am_G} {M' : am_Mem} {N : Nat} {k18 : Nat → Int32 → am_Mem → Option (Unit × am_Mem)} {k115 : Nat → Int32 → Int32 → am_Mem → Option (Unit × am_Mem)} (cx : am_Ctx l rm12_takesOver yX12_takesOver cX12_takesOver 3 none none M' 0 0 G) (hk18 : ∀ (r0 : Nat) (x1 : Int32) (M : am_Mem), k18 r0 x1 M = some ((), M') → G 18 [(0, .inr (.inr r0)), (1, .inl x1)] [] M 0 0) (hk115 : ∀ (r0 : Nat) (x1 : Int32) (x2 : Int32) (M : am_Mem), k115 r0 x1 x2 M = some ((), M') → G 115 [(0, .inr (.inr r0)), (1, .inl x1), (2, .inl x2)] [] M 0 0) {r0 : Nat} {x1 : Int32} {x2 : Int32} {M : am_Mem} (hres : fn12_takesOver_b115B N k18 k115 r0 x1 x2 M = some ((), M')) : G 115 [(0, .inr (.inr r0)), (1, .inl x1), (2, .inl x2)] [] M 0 0 := by
  unfold fn12_takesOver_b115B at hres
  refine am_iload_n cx 2 dX12_takesOver_115 rfl ?_
  refine am_bipush cx (v := (28 : Int32)) dX12_takesOver_116 (by decide) ?_
  refine am_icmp_ge cx (tgt := 149) dX12_takesOver_118 (by decide) (fun h => ?_) (fun h => ?_)
  · have hres := am_ifp h hres
    refine am_aload_n cx 0 dX12_takesOver_149 rfl ?_
    obtain ⟨q1, hres⟩ := am_ck_some hres
    refine am_getR cx dX12_takesOver_150 flX12_55 (am_ke q1) ?_
    refine am_iload_n cx 1 dX12_takesOver_153 rfl ?_
    refine am_iconst cx (v := (0 : Int32)) dX12_takesOver_154 (by decide) ?_
    obtain ⟨q2, hres⟩ := am_ck_some hres
    obtain ⟨q3, hres⟩ := am_ck_some hres
    refine am_iast cx dX12_takesOver_155 (am_ke q2) q3  ?_
    refine am_aload_n cx 0 dX12_takesOver_156 rfl ?_
    refine am_getR cx dX12_takesOver_157 flX12_58 (am_ke q1) ?_
    refine am_iload_n cx 1 dX12_takesOver_160 rfl ?_
    refine am_iconst cx (v := (0 : Int32)) dX12_takesOver_161 (by decide) ?_
    obtain ⟨q4, hres⟩ := am_ck_some hres
    obtain ⟨q5, hres⟩ := am_ck_some hres
    refine am_iast cx dX12_takesOver_162 (am_ke q4) q5  ?_
    refine am_aload_n cx 0 dX12_takesOver_163 rfl ?_
    refine am_getR cx dX12_takesOver_164 flX12_61 (am_ke q1) ?_
    refine am_iload_n cx 1 dX12_takesOver_167 rfl ?_
    refine am_lconst cx (v := (0 : Int64)) dX12_takesOver_168 (by decide) ?_
    obtain ⟨q6, hres⟩ := am_ck_some hres
    obtain ⟨q7, hres⟩ := am_ck_some hres
    refine am_last cx dX12_takesOver_169 (am_ke q6) q7  ?_
    refine am_aload_n cx 0 dX12_takesOver_170 rfl ?_
    refine am_getR cx dX12_takesOver_171 flX12_43 (am_ke q1) ?_
    refine am_iload_n cx 1 dX12_takesOver_174 rfl ?_
    obtain ⟨q8, hres⟩ := am_ck_some hres
    obtain ⟨q9, hres⟩ := am_ck_some hres
    refine am_iald cx dX12_takesOver_175 (am_ke q8) q9 ?_
    refine am_if_ne cx (tgt := 187) dX12_takesOver_176 (by decide) (fun h => ?_) (fun h => ?_)
    · have hres := am_ifn h hres
      refine am_aload_n cx 0 dX12_takesOver_187 rfl ?_
      refine am_iload_n cx 1 dX12_takesOver_188 rfl ?_
      obtain ⟨v10, M11, q12, hres⟩ := am_bd_some hres
      refine am_callV0 cx [.inl x1] dX12_takesOver_189 cvX12_294 (mt12_nets q12) (am_ke q1) ⟨rfl, rfl, Nat.le_of_ble_eq_true rfl, Nat.le_of_ble_eq_true rfl⟩ rfl (Nat.le_of_ble_eq_true rfl) ⟨Nat.le_of_ble_eq_true rfl, Nat.le_of_ble_eq_true rfl⟩ ?_
      refine am_sub cx [0, 1] rfl ?_
      exact sn12_takesOver_b192 cx hk18 hres
    · have hres := am_ifp h hres
      refine am_aload_n cx 0 dX12_takesOver_179 rfl ?_
      refine am_iload_n cx 1 dX12_takesOver_180 rfl ?_
      obtain ⟨v13, M14, q15, hres⟩ := am_bd_some hres
      refine am_callV0 cx [.inl x1] dX12_takesOver_181 cvX12_291 (mt12_draws q15) (am_ke q1) ⟨rfl, rfl, Nat.le_of_ble_eq_true rfl, Nat.le_of_ble_eq_true rfl⟩ rfl (Nat.le_of_ble_eq_true rfl) ⟨Nat.le_of_ble_eq_true rfl, Nat.le_of_ble_eq_true rfl⟩ ?_
      refine am_goto cx (tgt := 192) dX12_takesOver_184 (by decide) ?_
      refine am_sub cx [0, 1] rfl ?_
      exact sn12_takesOver_b192 cx hk18 hres
  · have hres := am_ifn h hres
    refine am_aload_n cx 0 dX12_takesOver_121 rfl ?_
    obtain ⟨q16, hres⟩ := am_ck_some hres
    refine am_getR cx dX12_takesOver_122 flX12_52 (am_ke q16) ?_
    refine am_bipush cx (v := (28 : Int32)) dX12_takesOver_125 (by decide) ?_
    refine am_iload_n cx 1 dX12_takesOver_127 rfl ?_
    refine am_imul cx dX12_takesOver_128 ?_
    refine am_iload_n cx 2 dX12_takesOver_129 rfl ?_
    refine am_iadd cx dX12_takesOver_130 ?_
    refine am_aload_n cx 0 dX12_takesOver_131 rfl ?_
    refine am_getR cx dX12_takesOver_132 flX12_27 (am_ke q16) ?_
    refine am_bipush cx (v := (29 : Int32)) dX12_takesOver_135 (by decide) ?_
    refine am_iload_n cx 1 dX12_takesOver_137 rfl ?_
    refine am_imul cx dX12_takesOver_138 ?_
    refine am_iload_n cx 2 dX12_takesOver_139 rfl ?_
    refine am_iadd cx dX12_takesOver_140 ?_
    obtain ⟨q17, hres⟩ := am_ck_some hres
    obtain ⟨q18, hres⟩ := am_ck_some hres
    refine am_iald cx dX12_takesOver_141 (am_ke q17) q18 ?_
    obtain ⟨q19, hres⟩ := am_ck_some hres
    obtain ⟨q20, hres⟩ := am_ck_some hres
    refine am_iast cx dX12_takesOver_142 (am_ke q19) q20  ?_
    refine am_iincw cx (lv' := [(0, .inr (.inr r0)), (1, .inl x1), (2, .inl (x2 + (1 : Int32)))]) (w := (1 : Int32)) 2 dX12_takesOver_143 (by decide) rfl (Nat.le_of_ble_eq_true rfl) rfl ?_
    refine am_goto cx (tgt := 115) dX12_takesOver_146 (by decide) ?_
    exact hk115 _ _ _ _ hres
set_option maxRecDepth 20000 in
theorem sn12_takesOver_b115 {l : Launch} {G : am_G} {M' : am_Mem} {N : Nat} {k18 : Nat → Int32 → am_Mem → Option (Unit × am_Mem)} (cx : am_Ctx l rm12_takesOver yX12_takesOver cX12_takesOver 3 none none M' 0 0 G) (hk18 : ∀ (r0 : Nat) (x1 : Int32) (M : am_Mem), k18 r0 x1 M = some ((), M') → G 18 [(0, .inr (.inr r0)), (1, .inl x1)] [] M 0 0) (i : Nat) : ∀ (r0 : Nat) (x1 : Int32) (x2 : Int32) (M : am_Mem), fn12_takesOver_b115 N k18 i r0 x1 x2 M = some ((), M') → G 115 [(0, .inr (.inr r0)), (1, .inl x1), (2, .inl x2)] [] M 0 0 := by
  induction i with
  | zero => intro r0 x1 x2 M hres; exact am_no hres
  | succ i ih => intro r0 x1 x2 M hres; exact sn12_takesOver_b115B cx hk18 ih hres
set_option maxRecDepth 20000 in
theorem sn12_takesOver_b112 {l : Launch} {G : am_G} {M' : am_Mem} {N : Nat} {k18 : Nat → Int32 → am_Mem → Option (Unit × am_Mem)} (cx : am_Ctx l rm12_takesOver yX12_takesOver cX12_takesOver 3 none none M' 0 0 G) (hk18 : ∀ (r0 : Nat) (x1 : Int32) (M : am_Mem), k18 r0 x1 M = some ((), M') → G 18 [(0, .inr (.inr r0)), (1, .inl x1)] [] M 0 0) {c0 : Nat} {a1 : Int32} {a2 : Int32} {r0 : Nat} {x1 : Int32} {M : am_Mem} (hres : fn12_takesOver_b112 N k18 c0 a1 a2 r0 x1 M = some ((), M')) : G 112 [(0, .inr (.inr r0)), (1, .inl x1)] [.inl a2, .inl a1, .inr (.inr c0)] M 0 0 := by
  unfold fn12_takesOver_b112 at hres
  obtain ⟨q1, hres⟩ := am_ck_some hres
  obtain ⟨q2, hres⟩ := am_ck_some hres
  refine am_iast cx dX12_takesOver_112 (am_ke q1) q2  ?_
  refine am_iconst cx (v := (0 : Int32)) dX12_takesOver_113 (by decide) ?_
  refine am_istore_n cx (lv' := [(0, .inr (.inr r0)), (1, .inl x1), (2, .inl (0 : Int32))]) dX12_takesOver_114 (Nat.le_of_ble_eq_true rfl) rfl ?_
  exact sn12_takesOver_b115 cx hk18 N _ _ _ _ hres
set_option maxRecDepth 20000 in
theorem sn12_takesOver_b84 {l : Launch} {G : am_G} {M' : am_Mem} {N : Nat} {k18 : Nat → Int32 → am_Mem → Option (Unit × am_Mem)} (cx : am_Ctx l rm12_takesOver yX12_takesOver cX12_takesOver 3 none none M' 0 0 G) (hk18 : ∀ (r0 : Nat) (x1 : Int32) (M : am_Mem), k18 r0 x1 M = some ((), M') → G 18 [(0, .inr (.inr r0)), (1, .inl x1)] [] M 0 0) {c0 : Nat} {a1 : Int32} {a2 : Int32} {r0 : Nat} {x1 : Int32} {M : am_Mem} (hres : fn12_takesOver_b84 N k18 c0 a1 a2 r0 x1 M = some ((), M')) : G 84 [(0, .inr (.inr r0)), (1, .inl x1)] [.inl a2, .inl a1, .inr (.inr c0)] M 0 0 := by
  unfold fn12_takesOver_b84 at hres
  obtain ⟨q1, hres⟩ := am_ck_some hres
  obtain ⟨q2, hres⟩ := am_ck_some hres
  refine am_iast cx dX12_takesOver_84 (am_ke q1) q2  ?_
  refine am_aload_n cx 0 dX12_takesOver_85 rfl ?_
  obtain ⟨q3, hres⟩ := am_ck_some hres
  refine am_getR cx dX12_takesOver_86 flX12_49 (am_ke q3) ?_
  refine am_iload_n cx 1 dX12_takesOver_89 rfl ?_
  refine am_aload_n cx 0 dX12_takesOver_90 rfl ?_
  refine am_getR cx dX12_takesOver_91 flX12_17 (am_ke q3) ?_
  refine am_iload_n cx 1 dX12_takesOver_94 rfl ?_
  obtain ⟨q4, hres⟩ := am_ck_some hres
  obtain ⟨q5, hres⟩ := am_ck_some hres
  refine am_iald cx dX12_takesOver_95 (am_ke q4) q5 ?_
  refine am_iconst cx (v := (1 : Int32)) dX12_takesOver_96 (by decide) ?_
  refine am_icmp_ne cx (tgt := 111) dX12_takesOver_97 (by decide) (fun h => ?_) (fun h => ?_)
  · have hres := am_ifn h hres
    refine am_iconst cx (v := (0 : Int32)) dX12_takesOver_111 (by decide) ?_
    exact sn12_takesOver_b112 cx hk18 hres
  · have hres := am_ifp h hres
    refine am_aload_n cx 0 dX12_takesOver_100 rfl ?_
    refine am_getR cx dX12_takesOver_101 flX12_21 (am_ke q3) ?_
    refine am_iload_n cx 1 dX12_takesOver_104 rfl ?_
    obtain ⟨q6, hres⟩ := am_ck_some hres
    obtain ⟨q7, hres⟩ := am_ck_some hres
    refine am_iald cx dX12_takesOver_105 (am_ke q6) q7 ?_
    refine am_iconst cx (v := (2 : Int32)) dX12_takesOver_106 (by decide) ?_
    refine am_idiv cx dX12_takesOver_107 (by decide) ?_
    refine am_goto cx (tgt := 112) dX12_takesOver_108 (by decide) ?_
    exact sn12_takesOver_b112 cx hk18 hres
set_option maxRecDepth 20000 in
theorem sn12_takesOver_b28B {l : Launch} {G : am_G} {M' : am_Mem} {N : Nat} {k18 : Nat → Int32 → am_Mem → Option (Unit × am_Mem)} {k28 : Nat → Int32 → Int32 → am_Mem → Option (Unit × am_Mem)} (cx : am_Ctx l rm12_takesOver yX12_takesOver cX12_takesOver 3 none none M' 0 0 G) (hk18 : ∀ (r0 : Nat) (x1 : Int32) (M : am_Mem), k18 r0 x1 M = some ((), M') → G 18 [(0, .inr (.inr r0)), (1, .inl x1)] [] M 0 0) (hk28 : ∀ (r0 : Nat) (x1 : Int32) (x2 : Int32) (M : am_Mem), k28 r0 x1 x2 M = some ((), M') → G 28 [(0, .inr (.inr r0)), (1, .inl x1), (2, .inl x2)] [] M 0 0) {r0 : Nat} {x1 : Int32} {x2 : Int32} {M : am_Mem} (hres : fn12_takesOver_b28B N k18 k28 r0 x1 x2 M = some ((), M')) : G 28 [(0, .inr (.inr r0)), (1, .inl x1), (2, .inl x2)] [] M 0 0 := by
  unfold fn12_takesOver_b28B at hres
  refine am_iload_n cx 2 dX12_takesOver_28 rfl ?_
  refine am_bipush cx (v := (124 : Int32)) dX12_takesOver_29 (by decide) ?_
  refine am_icmp_ge cx (tgt := 47) dX12_takesOver_31 (by decide) (fun h => ?_) (fun h => ?_)
  · have hres := am_ifp h hres
    refine am_aload_n cx 0 dX12_takesOver_47 rfl ?_
    obtain ⟨q1, hres⟩ := am_ck_some hres
    refine am_getR cx dX12_takesOver_48 flX12_43 (am_ke q1) ?_
    refine am_iload_n cx 1 dX12_takesOver_51 rfl ?_
    refine am_aload_n cx 0 dX12_takesOver_52 rfl ?_
    refine am_getR cx dX12_takesOver_53 flX12_17 (am_ke q1) ?_
    refine am_iload_n cx 1 dX12_takesOver_56 rfl ?_
    obtain ⟨q2, hres⟩ := am_ck_some hres
    obtain ⟨q3, hres⟩ := am_ck_some hres
    refine am_iald cx dX12_takesOver_57 (am_ke q2) q3 ?_
    obtain ⟨q4, hres⟩ := am_ck_some hres
    obtain ⟨q5, hres⟩ := am_ck_some hres
    refine am_iast cx dX12_takesOver_58 (am_ke q4) q5  ?_
    refine am_aload_n cx 0 dX12_takesOver_59 rfl ?_
    refine am_getR cx dX12_takesOver_60 flX12_46 (am_ke q1) ?_
    refine am_iload_n cx 1 dX12_takesOver_63 rfl ?_
    refine am_aload_n cx 0 dX12_takesOver_64 rfl ?_
    refine am_getR cx dX12_takesOver_65 flX12_17 (am_ke q1) ?_
    refine am_iload_n cx 1 dX12_takesOver_68 rfl ?_
    obtain ⟨q6, hres⟩ := am_ck_some hres
    refine am_iald cx dX12_takesOver_69 (am_ke q2) q6 ?_
    refine am_iconst cx (v := (1 : Int32)) dX12_takesOver_70 (by decide) ?_
    refine am_icmp_ne cx (tgt := 83) dX12_takesOver_71 (by decide) (fun h => ?_) (fun h => ?_)
    · have hres := am_ifn h hres
      refine am_iconst cx (v := (0 : Int32)) dX12_takesOver_83 (by decide) ?_
      refine am_sub cx [0, 1] rfl ?_
      exact sn12_takesOver_b84 cx hk18 hres
    · have hres := am_ifp h hres
      refine am_aload_n cx 0 dX12_takesOver_74 rfl ?_
      refine am_getR cx dX12_takesOver_75 flX12_24 (am_ke q1) ?_
      refine am_iload_n cx 1 dX12_takesOver_78 rfl ?_
      obtain ⟨q7, hres⟩ := am_ck_some hres
      obtain ⟨q8, hres⟩ := am_ck_some hres
      refine am_iald cx dX12_takesOver_79 (am_ke q7) q8 ?_
      refine am_goto cx (tgt := 84) dX12_takesOver_80 (by decide) ?_
      refine am_sub cx [0, 1] rfl ?_
      exact sn12_takesOver_b84 cx hk18 hres
  · have hres := am_ifn h hres
    refine am_aload_n cx 0 dX12_takesOver_34 rfl ?_
    refine am_iload_n cx 1 dX12_takesOver_35 rfl ?_
    refine am_iload_n cx 2 dX12_takesOver_36 rfl ?_
    refine am_iconst cx (v := (0 : Int32)) dX12_takesOver_37 (by decide) ?_
    obtain ⟨q9, hres⟩ := am_ck_some hres
    obtain ⟨v10, M11, q12, hres⟩ := am_bd_some hres
    refine am_callV0 cx [.inl x1, .inl x2, .inl (0 : Int32)] dX12_takesOver_38 cvX12_226 (mt12_put q12) (am_ke q9) ⟨rfl, rfl, Nat.le_of_ble_eq_true rfl, Nat.le_of_ble_eq_true rfl⟩ rfl (Nat.le_of_ble_eq_true rfl) ⟨Nat.le_of_ble_eq_true rfl, Nat.le_of_ble_eq_true rfl⟩ ?_
    refine am_iincw cx (lv' := [(0, .inr (.inr r0)), (1, .inl x1), (2, .inl (x2 + (1 : Int32)))]) (w := (1 : Int32)) 2 dX12_takesOver_41 (by decide) rfl (Nat.le_of_ble_eq_true rfl) rfl ?_
    refine am_goto cx (tgt := 28) dX12_takesOver_44 (by decide) ?_
    exact hk28 _ _ _ _ hres
set_option maxRecDepth 20000 in
theorem sn12_takesOver_b28 {l : Launch} {G : am_G} {M' : am_Mem} {N : Nat} {k18 : Nat → Int32 → am_Mem → Option (Unit × am_Mem)} (cx : am_Ctx l rm12_takesOver yX12_takesOver cX12_takesOver 3 none none M' 0 0 G) (hk18 : ∀ (r0 : Nat) (x1 : Int32) (M : am_Mem), k18 r0 x1 M = some ((), M') → G 18 [(0, .inr (.inr r0)), (1, .inl x1)] [] M 0 0) (i : Nat) : ∀ (r0 : Nat) (x1 : Int32) (x2 : Int32) (M : am_Mem), fn12_takesOver_b28 N k18 i r0 x1 x2 M = some ((), M') → G 28 [(0, .inr (.inr r0)), (1, .inl x1), (2, .inl x2)] [] M 0 0 := by
  induction i with
  | zero => intro r0 x1 x2 M hres; exact am_no hres
  | succ i ih => intro r0 x1 x2 M hres; exact sn12_takesOver_b28B cx hk18 ih hres
set_option maxRecDepth 20000 in
theorem sn12_takesOver_b18B {l : Launch} {G : am_G} {M' : am_Mem} {N : Nat} {k18 : Nat → Int32 → am_Mem → Option (Unit × am_Mem)} (cx : am_Ctx l rm12_takesOver yX12_takesOver cX12_takesOver 3 none none M' 0 0 G) (hk18 : ∀ (r0 : Nat) (x1 : Int32) (M : am_Mem), k18 r0 x1 M = some ((), M') → G 18 [(0, .inr (.inr r0)), (1, .inl x1)] [] M 0 0) {r0 : Nat} {x1 : Int32} {M : am_Mem} (hres : fn12_takesOver_b18B N k18 r0 x1 M = some ((), M')) : G 18 [(0, .inr (.inr r0)), (1, .inl x1)] [] M 0 0 := by
  unfold fn12_takesOver_b18B at hres
  refine am_iload_n cx 1 dX12_takesOver_18 rfl ?_
  refine am_aload_n cx 0 dX12_takesOver_19 rfl ?_
  obtain ⟨q1, hres⟩ := am_ck_some hres
  refine am_getI cx dX12_takesOver_20 flX12_285 (am_ke q1) ?_
  refine am_icmp_ge cx (tgt := 198) dX12_takesOver_23 (by decide) (fun h => ?_) (fun h => ?_)
  · have hres := am_ifp h hres
    refine am_aload_n cx 0 dX12_takesOver_198 rfl ?_
    refine am_iconst cx (v := (0 : Int32)) dX12_takesOver_199 (by decide) ?_
    refine am_putI cx dX12_takesOver_200 fpX12_297 (fun h => by cases h) (am_ke q1) ?_
    refine am_aload_n cx 0 dX12_takesOver_203 rfl ?_
    refine am_getR cx dX12_takesOver_204 flX12_39 (am_ke q1) ?_
    refine am_iconst cx (v := (0 : Int32)) dX12_takesOver_207 (by decide) ?_
    refine am_iconst cx (v := (0 : Int32)) dX12_takesOver_208 (by decide) ?_
    obtain ⟨q2, hres⟩ := am_ck_some hres
    obtain ⟨q3, hres⟩ := am_ck_some hres
    refine am_zast cx dX12_takesOver_209 (am_ke q2) q3  ?_
    refine am_aload_n cx 0 dX12_takesOver_210 rfl ?_
    refine am_getR cx dX12_takesOver_211 flX12_39 (am_ke q1) ?_
    refine am_iconst cx (v := (1 : Int32)) dX12_takesOver_214 (by decide) ?_
    refine am_iconst cx (v := (0 : Int32)) dX12_takesOver_215 (by decide) ?_
    obtain ⟨q4, hres⟩ := am_ck_some hres
    refine am_zast cx dX12_takesOver_216 (am_ke q2) q4  ?_
    obtain ⟨-, rfl⟩ := am_fin hres
    exact am_vret cx dX12_takesOver_217
  · have hres := am_ifn h hres
    refine am_iconst cx (v := (0 : Int32)) dX12_takesOver_26 (by decide) ?_
    refine am_istore_n cx (lv' := [(0, .inr (.inr r0)), (1, .inl x1), (2, .inl (0 : Int32))]) dX12_takesOver_27 (Nat.le_of_ble_eq_true rfl) rfl ?_
    exact sn12_takesOver_b28 cx hk18 N _ _ _ _ hres
set_option maxRecDepth 20000 in
theorem sn12_takesOver_b18 {l : Launch} {G : am_G} {M' : am_Mem} {N : Nat}  (cx : am_Ctx l rm12_takesOver yX12_takesOver cX12_takesOver 3 none none M' 0 0 G)  (i : Nat) : ∀ (r0 : Nat) (x1 : Int32) (M : am_Mem), fn12_takesOver_b18 N  i r0 x1 M = some ((), M') → G 18 [(0, .inr (.inr r0)), (1, .inl x1)] [] M 0 0 := by
  induction i with
  | zero => intro r0 x1 M hres; exact am_no hres
  | succ i ih => intro r0 x1 M hres; exact sn12_takesOver_b18B cx ih hres
set_option maxRecDepth 20000 in
theorem sn12_takesOver_b0 {l : Launch} {G : am_G} {M' : am_Mem} {N : Nat}  (cx : am_Ctx l rm12_takesOver yX12_takesOver cX12_takesOver 3 none none M' 0 0 G)  {r0 : Nat} {M : am_Mem} (hres : fn12_takesOver_b0 N  r0 M = some ((), M')) : G 0 [(0, .inr (.inr r0))] [] M 0 0 := by
  unfold fn12_takesOver_b0 at hres
  refine am_aload_n cx 0 dX12_takesOver_0 rfl ?_
  refine am_aload_n cx 0 dX12_takesOver_1 rfl ?_
  obtain ⟨q1, hres⟩ := am_ck_some hres
  refine am_getI cx dX12_takesOver_2 flX12_179 (am_ke q1) ?_
  refine am_putI cx dX12_takesOver_5 fpX12_285 (fun h => by cases h) (am_ke q1) ?_
  refine am_aload_n cx 0 dX12_takesOver_8 rfl ?_
  refine am_aload_n cx 0 dX12_takesOver_9 rfl ?_
  refine am_getI cx dX12_takesOver_10 flX12_179 (am_ke q1) ?_
  refine am_putI cx dX12_takesOver_13 fpX12_288 (fun h => by cases h) (am_ke q1) ?_
  refine am_iconst cx (v := (0 : Int32)) dX12_takesOver_16 (by decide) ?_
  refine am_istore_n cx (lv' := [(0, .inr (.inr r0)), (1, .inl (0 : Int32))]) dX12_takesOver_17 (Nat.le_of_ble_eq_true rfl) rfl ?_
  exact sn12_takesOver_b18 cx  N _ _ _ hres
set_option maxRecDepth 20000 in
theorem mt12_takesOver {l : Launch} {M M' : am_Mem} {N : Nat} {r0 : Nat} (h : fn12_takesOver N M r0 = some ((), M')) : am_Met l yX12_takesOver cX12_takesOver 3 none rm12_takesOver 0 0 [.inr (.inr r0)] M none M' := am_mk (by decide) (Nat.le_of_ble_eq_true rfl) (fun G cx => (sn12_takesOver_b0 cx h))
-- SquareCuts$Draft.takeTurned
def fn0_takeTurned_b257 (N : Nat) (k70 : Nat → Nat → Int32 → Int32 → Int32 → am_Mem → Option (Unit × am_Mem)) (r0 : Nat) (r1 : Nat) (x2 : Int32) (x3 : Int32) (x7 : Int32) (M : am_Mem) : Option (Unit × am_Mem) :=
  k70 r0 r1 x2 x3 (x7 + (1 : Int32)) M
def fn0_takeTurned_b163 (N : Nat) (k70 : Nat → Nat → Int32 → Int32 → Int32 → am_Mem → Option (Unit × am_Mem)) (r0 : Nat) (r1 : Nat) (x2 : Int32) (x3 : Int32) (x7 : Int32) (x9 : Int32) (x10 : Int32) (x11 : Int32) (x12 : Int32) (x13 : Int32) (M : am_Mem) : Option (Unit × am_Mem) :=
  if (x2 &&& (3 : Int32)) = (0 : Int32) then (am_ck (decide (¬ x3 = 0)) (am_ck (decide (¬ x3 = 0)) (am_ck (am_k M r0 0) (am_bd (fn0_add M r0 (x10 / x3) (x12 / x3) x13) (fun v5 M6 => fn0_takeTurned_b257 N k70 r0 r1 x2 x3 x7 M6))))) else (if (x2 &&& (3 : Int32)) = (1 : Int32) then (am_ck (decide (¬ x3 = 0)) (am_ck (decide (¬ x3 = 0)) (am_ck (am_k M r0 0) (am_bd (fn0_add M r0 (x9 / x3) (x10 / x3) x13) (fun v12 M13 => fn0_takeTurned_b257 N k70 r0 r1 x2 x3 x7 M13))))) else (if (x2 &&& (3 : Int32)) = (2 : Int32) then (am_ck (decide (¬ x3 = 0)) (am_ck (decide (¬ x3 = 0)) (am_ck (am_k M r0 0) (am_bd (fn0_add M r0 (x11 / x3) (x9 / x3) x13) (fun v19 M20 => fn0_takeTurned_b257 N k70 r0 r1 x2 x3 x7 M20))))) else (am_ck (decide (¬ x3 = 0)) (am_ck (decide (¬ x3 = 0)) (am_ck (am_k M r0 0) (am_bd (fn0_add M r0 (x12 / x3) (x11 / x3) x13) (fun v25 M26 => fn0_takeTurned_b257 N k70 r0 r1 x2 x3 x7 M26)))))))
def fn0_takeTurned_b152 (N : Nat) (k70 : Nat → Nat → Int32 → Int32 → Int32 → am_Mem → Option (Unit × am_Mem)) (r0 : Nat) (r1 : Nat) (x2 : Int32) (x3 : Int32) (x7 : Int32) (x9 : Int32) (x10 : Int32) (x11 : Int32) (x12 : Int32) (M : am_Mem) : Option (Unit × am_Mem) :=
  am_ck (am_k M r1 10) (am_ck (am_k M (am_R M r1 9) 14) (am_ck (am_in x7 (am_L M (am_R M r1 9))) (am_ck (decide (¬ x3 = 0)) (fn0_takeTurned_b163 N k70 r0 r1 x2 x3 x7 x9 x10 x11 x12 ((am_I M (am_R M r1 9) x7.toNatClampNeg) / x3) M))))
def fn0_takeTurned_b141 (N : Nat) (k70 : Nat → Nat → Int32 → Int32 → Int32 → am_Mem → Option (Unit × am_Mem)) (a0 : Int32) (r0 : Nat) (r1 : Nat) (x2 : Int32) (x3 : Int32) (x7 : Int32) (x9 : Int32) (x10 : Int32) (M : am_Mem) : Option (Unit × am_Mem) :=
  am_ck (am_k M r1 10) (am_ck (am_k M (am_R M r1 8) 14) (am_ck (am_in x7 (am_L M (am_R M r1 8))) (fn0_takeTurned_b152 N k70 r0 r1 x2 x3 x7 x9 x10 a0 (am_I M (am_R M r1 8) x7.toNatClampNeg) M)))
def fn0_takeTurned_b124 (N : Nat) (k70 : Nat → Nat → Int32 → Int32 → Int32 → am_Mem → Option (Unit × am_Mem)) (r0 : Nat) (r1 : Nat) (x2 : Int32) (x3 : Int32) (x7 : Int32) (x8 : Int32) (x9 : Int32) (x10 : Int32) (M : am_Mem) : Option (Unit × am_Mem) :=
  if x2 < (4 : Int32) then fn0_takeTurned_b141 N k70 x8 r0 r1 x2 x3 x7 x9 x10 M else am_ck (am_k M r1 10) (am_ck (am_k M (am_R M r1 7) 14) (am_ck (am_in x7 (am_L M (am_R M r1 7))) (fn0_takeTurned_b141 N k70 (am_I M (am_R M r1 7) x7.toNatClampNeg) r0 r1 x2 x3 x7 x9 x10 M)))
def fn0_takeTurned_b122 (N : Nat) (k70 : Nat → Nat → Int32 → Int32 → Int32 → am_Mem → Option (Unit × am_Mem)) (a0 : Int32) (r0 : Nat) (r1 : Nat) (x2 : Int32) (x3 : Int32) (x7 : Int32) (x8 : Int32) (x9 : Int32) (M : am_Mem) : Option (Unit × am_Mem) :=
  fn0_takeTurned_b124 N k70 r0 r1 x2 x3 x7 x8 x9 a0 M
def fn0_takeTurned_b105 (N : Nat) (k70 : Nat → Nat → Int32 → Int32 → Int32 → am_Mem → Option (Unit × am_Mem)) (r0 : Nat) (r1 : Nat) (x2 : Int32) (x3 : Int32) (x7 : Int32) (x8 : Int32) (x9 : Int32) (M : am_Mem) : Option (Unit × am_Mem) :=
  if x2 < (4 : Int32) then am_ck (am_k M r1 10) (am_ck (am_k M (am_R M r1 7) 14) (am_ck (am_in x7 (am_L M (am_R M r1 7))) (fn0_takeTurned_b122 N k70 (am_I M (am_R M r1 7) x7.toNatClampNeg) r0 r1 x2 x3 x7 x8 x9 M))) else fn0_takeTurned_b122 N k70 x8 r0 r1 x2 x3 x7 x8 x9 M
def fn0_takeTurned_b92 (N : Nat) (k70 : Nat → Nat → Int32 → Int32 → Int32 → am_Mem → Option (Unit × am_Mem)) (r0 : Nat) (r1 : Nat) (x2 : Int32) (x3 : Int32) (x7 : Int32) (x8 : Int32) (M : am_Mem) : Option (Unit × am_Mem) :=
  am_ck (am_k M r1 10) (am_bd (fn10_bottom M r1 x7) (fun v2 M3 => fn0_takeTurned_b105 N k70 r0 r1 x2 x3 x7 x8 ((am_I M r1 6) - v2) M3))
def fn0_takeTurned_b70B (N : Nat) (k70 : Nat → Nat → Int32 → Int32 → Int32 → am_Mem → Option (Unit × am_Mem)) (r0 : Nat) (r1 : Nat) (x2 : Int32) (x3 : Int32) (x7 : Int32) (M : am_Mem) : Option (Unit × am_Mem) :=
  am_ck (am_k M r1 10) (if (am_I M r1 4) ≤ x7 then am_ck (am_k M r0 0) (am_bd (fn0_sortAsCode N M r0) (fun v3 M4 => some ((), M4))) else am_bd (fn10_right M r1 x7) (fun v6 M7 => fn0_takeTurned_b92 N k70 r0 r1 x2 x3 x7 ((am_I M r1 5) - v6) M7))
def fn0_takeTurned_b70 (N : Nat)  : Nat → Nat → Nat → Int32 → Int32 → Int32 → am_Mem → Option (Unit × am_Mem)
  | 0 => fun _ _ _ _ _ _ => none
  | i + 1 => fn0_takeTurned_b70B N (fn0_takeTurned_b70 N  i)
def fn0_takeTurned_b55 (N : Nat)  (r0 : Nat) (r1 : Nat) (x2 : Int32) (x3 : Int32) (x5 : Int32) (x6 : Int32) (M : am_Mem) : Option (Unit × am_Mem) :=
  am_ck (decide (¬ x3 = 0)) (am_ck (decide (¬ x3 = 0)) (am_ck (am_k M r0 0) (am_bd (fn0_begin M r0 (x5 / x3) (x6 / x3)) (fun v4 M5 => fn0_takeTurned_b70 N  N r0 r1 x2 x3 (0 : Int32) M5))))
def fn0_takeTurned_b53 (N : Nat)  (a0 : Int32) (r0 : Nat) (r1 : Nat) (x2 : Int32) (x3 : Int32) (x5 : Int32) (M : am_Mem) : Option (Unit × am_Mem) :=
  fn0_takeTurned_b55 N  r0 r1 x2 x3 x5 a0 M
def fn0_takeTurned_b37 (N : Nat)  (r0 : Nat) (r1 : Nat) (x2 : Int32) (x3 : Int32) (x4 : Int32) (x5 : Int32) (M : am_Mem) : Option (Unit × am_Mem) :=
  if x4 = 0 then am_ck (am_k M r1 10) (fn0_takeTurned_b53 N  (am_I M r1 6) r0 r1 x2 x3 x5 M) else am_ck (am_k M r1 10) (fn0_takeTurned_b53 N  (am_I M r1 5) r0 r1 x2 x3 x5 M)
def fn0_takeTurned_b35 (N : Nat)  (a0 : Int32) (r0 : Nat) (r1 : Nat) (x2 : Int32) (x3 : Int32) (x4 : Int32) (M : am_Mem) : Option (Unit × am_Mem) :=
  fn0_takeTurned_b37 N  r0 r1 x2 x3 x4 a0 M
def fn0_takeTurned_b17 (N : Nat)  (a0 : Int32) (r0 : Nat) (r1 : Nat) (x2 : Int32) (x3 : Int32) (M : am_Mem) : Option (Unit × am_Mem) :=
  if a0 = 0 then am_ck (am_k M r1 10) (fn0_takeTurned_b35 N  (am_I M r1 5) r0 r1 x2 x3 a0 M) else am_ck (am_k M r1 10) (fn0_takeTurned_b35 N  (am_I M r1 6) r0 r1 x2 x3 a0 M)
def fn0_takeTurned_b0 (N : Nat)  (r0 : Nat) (r1 : Nat) (x2 : Int32) (x3 : Int32) (M : am_Mem) : Option (Unit × am_Mem) :=
  if x3 = 0 then some ((), M) else if (x2 &&& (1 : Int32)) = (1 : Int32) then fn0_takeTurned_b17 N  (1 : Int32) r0 r1 x2 x3 M else fn0_takeTurned_b17 N  (0 : Int32) r0 r1 x2 x3 M
def fn0_takeTurned (N : Nat) (M : am_Mem) (r0 : Nat) (r1 : Nat) (x2 : Int32) (x3 : Int32) : Option (Unit × am_Mem) := fn0_takeTurned_b0 N r0 r1 x2 x3 M
def rm0_takeTurned : Room := { frames := 2, cells := 0, slots := 0, locals := 48 }
set_option maxRecDepth 20000 in
theorem sn0_takeTurned_b257 {l : Launch} {G : am_G} {M' : am_Mem} {N : Nat} {k70 : Nat → Nat → Int32 → Int32 → Int32 → am_Mem → Option (Unit × am_Mem)} (cx : am_Ctx l rm0_takeTurned yX0_takeTurned cX0_takeTurned 14 none none M' 0 0 G) (hk70 : ∀ (r0 : Nat) (r1 : Nat) (x2 : Int32) (x3 : Int32) (x7 : Int32) (M : am_Mem), k70 r0 r1 x2 x3 x7 M = some ((), M') → G 70 [(0, .inr (.inr r0)), (1, .inr (.inr r1)), (2, .inl x2), (3, .inl x3), (7, .inl x7)] [] M 0 0) {r0 : Nat} {r1 : Nat} {x2 : Int32} {x3 : Int32} {x7 : Int32} {M : am_Mem} (hres : fn0_takeTurned_b257 N k70 r0 r1 x2 x3 x7 M = some ((), M')) : G 257 [(0, .inr (.inr r0)), (1, .inr (.inr r1)), (2, .inl x2), (3, .inl x3), (7, .inl x7)] [] M 0 0 := by
  unfold fn0_takeTurned_b257 at hres
  refine am_iincw cx (lv' := [(0, .inr (.inr r0)), (1, .inr (.inr r1)), (2, .inl x2), (3, .inl x3), (7, .inl (x7 + (1 : Int32)))]) (w := (1 : Int32)) 4 dX0_takeTurned_257 (by decide) rfl (Nat.le_of_ble_eq_true rfl) rfl ?_
  refine am_goto cx (tgt := 70) dX0_takeTurned_260 (by decide) ?_
  exact hk70 _ _ _ _ _ _ hres
set_option maxRecDepth 20000 in
theorem sn0_takeTurned_b163 {l : Launch} {G : am_G} {M' : am_Mem} {N : Nat} {k70 : Nat → Nat → Int32 → Int32 → Int32 → am_Mem → Option (Unit × am_Mem)} (cx : am_Ctx l rm0_takeTurned yX0_takeTurned cX0_takeTurned 14 none none M' 0 0 G) (hk70 : ∀ (r0 : Nat) (r1 : Nat) (x2 : Int32) (x3 : Int32) (x7 : Int32) (M : am_Mem), k70 r0 r1 x2 x3 x7 M = some ((), M') → G 70 [(0, .inr (.inr r0)), (1, .inr (.inr r1)), (2, .inl x2), (3, .inl x3), (7, .inl x7)] [] M 0 0) {r0 : Nat} {r1 : Nat} {x2 : Int32} {x3 : Int32} {x7 : Int32} {x9 : Int32} {x10 : Int32} {x11 : Int32} {x12 : Int32} {x13 : Int32} {M : am_Mem} (hres : fn0_takeTurned_b163 N k70 r0 r1 x2 x3 x7 x9 x10 x11 x12 x13 M = some ((), M')) : G 163 [(0, .inr (.inr r0)), (1, .inr (.inr r1)), (2, .inl x2), (3, .inl x3), (7, .inl x7), (9, .inl x9), (10, .inl x10), (11, .inl x11), (12, .inl x12), (13, .inl x13)] [] M 0 0 := by
  unfold fn0_takeTurned_b163 at hres
  refine am_iload_n cx 2 dX0_takeTurned_163 rfl ?_
  refine am_iconst cx (v := (3 : Int32)) dX0_takeTurned_164 (by decide) ?_
  refine am_iand cx dX0_takeTurned_165 ?_
  by_cases w1 : (x2 &&& (3 : Int32)) = (0 : Int32)
  · refine am_tableIn cx (tgt := 192) (off := 26) dX0_takeTurned_166 (by rw [w1]; decide) (by rw [w1]; decide) (by rw [w1]; decide) (by decide) ?_
    have hres := am_ifp w1 hres
    refine am_aload_n cx 0 dX0_takeTurned_192 rfl ?_
    refine am_iload cx 6 dX0_takeTurned_193 rfl ?_
    refine am_iload_n cx 3 dX0_takeTurned_195 rfl ?_
    obtain ⟨q2, hres⟩ := am_ck_some hres
    refine am_idiv cx dX0_takeTurned_196 (of_decide_eq_true q2) ?_
    refine am_iload cx 8 dX0_takeTurned_197 rfl ?_
    refine am_iload_n cx 3 dX0_takeTurned_199 rfl ?_
    obtain ⟨q3, hres⟩ := am_ck_some hres
    refine am_idiv cx dX0_takeTurned_200 (of_decide_eq_true q3) ?_
    refine am_iload cx 9 dX0_takeTurned_201 rfl ?_
    obtain ⟨q4, hres⟩ := am_ck_some hres
    obtain ⟨v5, M6, q7, hres⟩ := am_bd_some hres
    refine am_callV0 cx [.inl (x10 / x3), .inl (x12 / x3), .inl x13] dX0_takeTurned_203 cvX0_37 (mt0_add q7) (am_ke q4) ⟨rfl, rfl, Nat.le_of_ble_eq_true rfl, Nat.le_of_ble_eq_true rfl⟩ rfl (Nat.le_of_ble_eq_true rfl) ⟨Nat.le_of_ble_eq_true rfl, Nat.le_of_ble_eq_true rfl⟩ ?_
    refine am_goto cx (tgt := 257) dX0_takeTurned_206 (by decide) ?_
    refine am_sub cx [0, 1, 2, 3, 4] rfl ?_
    exact sn0_takeTurned_b257 cx hk70 hres
  have hres := am_ifn w1 hres
  by_cases w8 : (x2 &&& (3 : Int32)) = (1 : Int32)
  · refine am_tableIn cx (tgt := 209) (off := 43) dX0_takeTurned_166 (by rw [w8]; decide) (by rw [w8]; decide) (by rw [w8]; decide) (by decide) ?_
    have hres := am_ifp w8 hres
    refine am_aload_n cx 0 dX0_takeTurned_209 rfl ?_
    refine am_iload cx 5 dX0_takeTurned_210 rfl ?_
    refine am_iload_n cx 3 dX0_takeTurned_212 rfl ?_
    obtain ⟨q9, hres⟩ := am_ck_some hres
    refine am_idiv cx dX0_takeTurned_213 (of_decide_eq_true q9) ?_
    refine am_iload cx 6 dX0_takeTurned_214 rfl ?_
    refine am_iload_n cx 3 dX0_takeTurned_216 rfl ?_
    obtain ⟨q10, hres⟩ := am_ck_some hres
    refine am_idiv cx dX0_takeTurned_217 (of_decide_eq_true q10) ?_
    refine am_iload cx 9 dX0_takeTurned_218 rfl ?_
    obtain ⟨q11, hres⟩ := am_ck_some hres
    obtain ⟨v12, M13, q14, hres⟩ := am_bd_some hres
    refine am_callV0 cx [.inl (x9 / x3), .inl (x10 / x3), .inl x13] dX0_takeTurned_220 cvX0_37 (mt0_add q14) (am_ke q11) ⟨rfl, rfl, Nat.le_of_ble_eq_true rfl, Nat.le_of_ble_eq_true rfl⟩ rfl (Nat.le_of_ble_eq_true rfl) ⟨Nat.le_of_ble_eq_true rfl, Nat.le_of_ble_eq_true rfl⟩ ?_
    refine am_goto cx (tgt := 257) dX0_takeTurned_223 (by decide) ?_
    refine am_sub cx [0, 1, 2, 3, 4] rfl ?_
    exact sn0_takeTurned_b257 cx hk70 hres
  have hres := am_ifn w8 hres
  by_cases w15 : (x2 &&& (3 : Int32)) = (2 : Int32)
  · refine am_tableIn cx (tgt := 226) (off := 60) dX0_takeTurned_166 (by rw [w15]; decide) (by rw [w15]; decide) (by rw [w15]; decide) (by decide) ?_
    have hres := am_ifp w15 hres
    refine am_aload_n cx 0 dX0_takeTurned_226 rfl ?_
    refine am_iload cx 7 dX0_takeTurned_227 rfl ?_
    refine am_iload_n cx 3 dX0_takeTurned_229 rfl ?_
    obtain ⟨q16, hres⟩ := am_ck_some hres
    refine am_idiv cx dX0_takeTurned_230 (of_decide_eq_true q16) ?_
    refine am_iload cx 5 dX0_takeTurned_231 rfl ?_
    refine am_iload_n cx 3 dX0_takeTurned_233 rfl ?_
    obtain ⟨q17, hres⟩ := am_ck_some hres
    refine am_idiv cx dX0_takeTurned_234 (of_decide_eq_true q17) ?_
    refine am_iload cx 9 dX0_takeTurned_235 rfl ?_
    obtain ⟨q18, hres⟩ := am_ck_some hres
    obtain ⟨v19, M20, q21, hres⟩ := am_bd_some hres
    refine am_callV0 cx [.inl (x11 / x3), .inl (x9 / x3), .inl x13] dX0_takeTurned_237 cvX0_37 (mt0_add q21) (am_ke q18) ⟨rfl, rfl, Nat.le_of_ble_eq_true rfl, Nat.le_of_ble_eq_true rfl⟩ rfl (Nat.le_of_ble_eq_true rfl) ⟨Nat.le_of_ble_eq_true rfl, Nat.le_of_ble_eq_true rfl⟩ ?_
    refine am_goto cx (tgt := 257) dX0_takeTurned_240 (by decide) ?_
    refine am_sub cx [0, 1, 2, 3, 4] rfl ?_
    exact sn0_takeTurned_b257 cx hk70 hres
  have hres := am_ifn w15 hres
  refine am_tableOut cx (tgt := 243) dX0_takeTurned_166 (am_sw (fun cq h1 h2 => ?_)) (by decide) ?_
  · rcases (show cq = 0 ∨ cq = 1 ∨ cq = 2 by omega) with rfl | rfl | rfl
    · exact w1
    · exact w8
    · exact w15
  skip
  refine am_aload_n cx 0 dX0_takeTurned_243 rfl ?_
  refine am_iload cx 8 dX0_takeTurned_244 rfl ?_
  refine am_iload_n cx 3 dX0_takeTurned_246 rfl ?_
  obtain ⟨q22, hres⟩ := am_ck_some hres
  refine am_idiv cx dX0_takeTurned_247 (of_decide_eq_true q22) ?_
  refine am_iload cx 7 dX0_takeTurned_248 rfl ?_
  refine am_iload_n cx 3 dX0_takeTurned_250 rfl ?_
  obtain ⟨q23, hres⟩ := am_ck_some hres
  refine am_idiv cx dX0_takeTurned_251 (of_decide_eq_true q23) ?_
  refine am_iload cx 9 dX0_takeTurned_252 rfl ?_
  obtain ⟨q24, hres⟩ := am_ck_some hres
  obtain ⟨v25, M26, q27, hres⟩ := am_bd_some hres
  refine am_callV0 cx [.inl (x12 / x3), .inl (x11 / x3), .inl x13] dX0_takeTurned_254 cvX0_37 (mt0_add q27) (am_ke q24) ⟨rfl, rfl, Nat.le_of_ble_eq_true rfl, Nat.le_of_ble_eq_true rfl⟩ rfl (Nat.le_of_ble_eq_true rfl) ⟨Nat.le_of_ble_eq_true rfl, Nat.le_of_ble_eq_true rfl⟩ ?_
  refine am_sub cx [0, 1, 2, 3, 4] rfl ?_
  exact sn0_takeTurned_b257 cx hk70 hres
set_option maxRecDepth 20000 in
theorem sn0_takeTurned_b152 {l : Launch} {G : am_G} {M' : am_Mem} {N : Nat} {k70 : Nat → Nat → Int32 → Int32 → Int32 → am_Mem → Option (Unit × am_Mem)} (cx : am_Ctx l rm0_takeTurned yX0_takeTurned cX0_takeTurned 14 none none M' 0 0 G) (hk70 : ∀ (r0 : Nat) (r1 : Nat) (x2 : Int32) (x3 : Int32) (x7 : Int32) (M : am_Mem), k70 r0 r1 x2 x3 x7 M = some ((), M') → G 70 [(0, .inr (.inr r0)), (1, .inr (.inr r1)), (2, .inl x2), (3, .inl x3), (7, .inl x7)] [] M 0 0) {r0 : Nat} {r1 : Nat} {x2 : Int32} {x3 : Int32} {x7 : Int32} {x9 : Int32} {x10 : Int32} {x11 : Int32} {x12 : Int32} {M : am_Mem} (hres : fn0_takeTurned_b152 N k70 r0 r1 x2 x3 x7 x9 x10 x11 x12 M = some ((), M')) : G 152 [(0, .inr (.inr r0)), (1, .inr (.inr r1)), (2, .inl x2), (3, .inl x3), (7, .inl x7), (9, .inl x9), (10, .inl x10), (11, .inl x11), (12, .inl x12)] [] M 0 0 := by
  unfold fn0_takeTurned_b152 at hres
  refine am_aload_n cx 1 dX0_takeTurned_152 rfl ?_
  obtain ⟨q1, hres⟩ := am_ck_some hres
  refine am_getR cx dX0_takeTurned_153 flX0_36 (am_ke q1) ?_
  refine am_iload cx 4 dX0_takeTurned_156 rfl ?_
  obtain ⟨q2, hres⟩ := am_ck_some hres
  obtain ⟨q3, hres⟩ := am_ck_some hres
  refine am_iald cx dX0_takeTurned_158 (am_ke q2) q3 ?_
  refine am_iload_n cx 3 dX0_takeTurned_159 rfl ?_
  obtain ⟨q4, hres⟩ := am_ck_some hres
  refine am_idiv cx dX0_takeTurned_160 (of_decide_eq_true q4) ?_
  refine am_istore cx (lv' := [(0, .inr (.inr r0)), (1, .inr (.inr r1)), (2, .inl x2), (3, .inl x3), (7, .inl x7), (9, .inl x9), (10, .inl x10), (11, .inl x11), (12, .inl x12), (13, .inl ((am_I M (am_R M r1 9) x7.toNatClampNeg) / x3))]) dX0_takeTurned_161 (Nat.le_of_ble_eq_true rfl) rfl ?_
  exact sn0_takeTurned_b163 cx hk70 hres
set_option maxRecDepth 20000 in
theorem sn0_takeTurned_b141 {l : Launch} {G : am_G} {M' : am_Mem} {N : Nat} {k70 : Nat → Nat → Int32 → Int32 → Int32 → am_Mem → Option (Unit × am_Mem)} (cx : am_Ctx l rm0_takeTurned yX0_takeTurned cX0_takeTurned 14 none none M' 0 0 G) (hk70 : ∀ (r0 : Nat) (r1 : Nat) (x2 : Int32) (x3 : Int32) (x7 : Int32) (M : am_Mem), k70 r0 r1 x2 x3 x7 M = some ((), M') → G 70 [(0, .inr (.inr r0)), (1, .inr (.inr r1)), (2, .inl x2), (3, .inl x3), (7, .inl x7)] [] M 0 0) {a0 : Int32} {r0 : Nat} {r1 : Nat} {x2 : Int32} {x3 : Int32} {x7 : Int32} {x9 : Int32} {x10 : Int32} {M : am_Mem} (hres : fn0_takeTurned_b141 N k70 a0 r0 r1 x2 x3 x7 x9 x10 M = some ((), M')) : G 141 [(0, .inr (.inr r0)), (1, .inr (.inr r1)), (2, .inl x2), (3, .inl x3), (7, .inl x7), (9, .inl x9), (10, .inl x10)] [.inl a0] M 0 0 := by
  unfold fn0_takeTurned_b141 at hres
  refine am_istore cx (lv' := [(0, .inr (.inr r0)), (1, .inr (.inr r1)), (2, .inl x2), (3, .inl x3), (7, .inl x7), (9, .inl x9), (10, .inl x10), (11, .inl a0)]) dX0_takeTurned_141 (Nat.le_of_ble_eq_true rfl) rfl ?_
  refine am_aload_n cx 1 dX0_takeTurned_143 rfl ?_
  obtain ⟨q1, hres⟩ := am_ck_some hres
  refine am_getR cx dX0_takeTurned_144 flX0_35 (am_ke q1) ?_
  refine am_iload cx 4 dX0_takeTurned_147 rfl ?_
  obtain ⟨q2, hres⟩ := am_ck_some hres
  obtain ⟨q3, hres⟩ := am_ck_some hres
  refine am_iald cx dX0_takeTurned_149 (am_ke q2) q3 ?_
  refine am_istore cx (lv' := [(0, .inr (.inr r0)), (1, .inr (.inr r1)), (2, .inl x2), (3, .inl x3), (7, .inl x7), (9, .inl x9), (10, .inl x10), (11, .inl a0), (12, .inl (am_I M (am_R M r1 8) x7.toNatClampNeg))]) dX0_takeTurned_150 (Nat.le_of_ble_eq_true rfl) rfl ?_
  exact sn0_takeTurned_b152 cx hk70 hres
set_option maxRecDepth 20000 in
theorem sn0_takeTurned_b124 {l : Launch} {G : am_G} {M' : am_Mem} {N : Nat} {k70 : Nat → Nat → Int32 → Int32 → Int32 → am_Mem → Option (Unit × am_Mem)} (cx : am_Ctx l rm0_takeTurned yX0_takeTurned cX0_takeTurned 14 none none M' 0 0 G) (hk70 : ∀ (r0 : Nat) (r1 : Nat) (x2 : Int32) (x3 : Int32) (x7 : Int32) (M : am_Mem), k70 r0 r1 x2 x3 x7 M = some ((), M') → G 70 [(0, .inr (.inr r0)), (1, .inr (.inr r1)), (2, .inl x2), (3, .inl x3), (7, .inl x7)] [] M 0 0) {r0 : Nat} {r1 : Nat} {x2 : Int32} {x3 : Int32} {x7 : Int32} {x8 : Int32} {x9 : Int32} {x10 : Int32} {M : am_Mem} (hres : fn0_takeTurned_b124 N k70 r0 r1 x2 x3 x7 x8 x9 x10 M = some ((), M')) : G 124 [(0, .inr (.inr r0)), (1, .inr (.inr r1)), (2, .inl x2), (3, .inl x3), (7, .inl x7), (8, .inl x8), (9, .inl x9), (10, .inl x10)] [] M 0 0 := by
  unfold fn0_takeTurned_b124 at hres
  refine am_iload_n cx 2 dX0_takeTurned_124 rfl ?_
  refine am_iconst cx (v := (4 : Int32)) dX0_takeTurned_125 (by decide) ?_
  refine am_icmp_lt cx (tgt := 139) dX0_takeTurned_126 (by decide) (fun h => ?_) (fun h => ?_)
  · have hres := am_ifp h hres
    refine am_iload cx 5 dX0_takeTurned_139 rfl ?_
    refine am_sub cx [0, 1, 2, 3, 4, 6, 7] rfl ?_
    exact sn0_takeTurned_b141 cx hk70 hres
  · have hres := am_ifn h hres
    refine am_aload_n cx 1 dX0_takeTurned_129 rfl ?_
    obtain ⟨q1, hres⟩ := am_ck_some hres
    refine am_getR cx dX0_takeTurned_130 flX0_34 (am_ke q1) ?_
    refine am_iload cx 4 dX0_takeTurned_133 rfl ?_
    obtain ⟨q2, hres⟩ := am_ck_some hres
    obtain ⟨q3, hres⟩ := am_ck_some hres
    refine am_iald cx dX0_takeTurned_135 (am_ke q2) q3 ?_
    refine am_goto cx (tgt := 141) dX0_takeTurned_136 (by decide) ?_
    refine am_sub cx [0, 1, 2, 3, 4, 6, 7] rfl ?_
    exact sn0_takeTurned_b141 cx hk70 hres
set_option maxRecDepth 20000 in
theorem sn0_takeTurned_b122 {l : Launch} {G : am_G} {M' : am_Mem} {N : Nat} {k70 : Nat → Nat → Int32 → Int32 → Int32 → am_Mem → Option (Unit × am_Mem)} (cx : am_Ctx l rm0_takeTurned yX0_takeTurned cX0_takeTurned 14 none none M' 0 0 G) (hk70 : ∀ (r0 : Nat) (r1 : Nat) (x2 : Int32) (x3 : Int32) (x7 : Int32) (M : am_Mem), k70 r0 r1 x2 x3 x7 M = some ((), M') → G 70 [(0, .inr (.inr r0)), (1, .inr (.inr r1)), (2, .inl x2), (3, .inl x3), (7, .inl x7)] [] M 0 0) {a0 : Int32} {r0 : Nat} {r1 : Nat} {x2 : Int32} {x3 : Int32} {x7 : Int32} {x8 : Int32} {x9 : Int32} {M : am_Mem} (hres : fn0_takeTurned_b122 N k70 a0 r0 r1 x2 x3 x7 x8 x9 M = some ((), M')) : G 122 [(0, .inr (.inr r0)), (1, .inr (.inr r1)), (2, .inl x2), (3, .inl x3), (7, .inl x7), (8, .inl x8), (9, .inl x9)] [.inl a0] M 0 0 := by
  unfold fn0_takeTurned_b122 at hres
  refine am_istore cx (lv' := [(0, .inr (.inr r0)), (1, .inr (.inr r1)), (2, .inl x2), (3, .inl x3), (7, .inl x7), (8, .inl x8), (9, .inl x9), (10, .inl a0)]) dX0_takeTurned_122 (Nat.le_of_ble_eq_true rfl) rfl ?_
  exact sn0_takeTurned_b124 cx hk70 hres
set_option maxRecDepth 20000 in
theorem sn0_takeTurned_b105 {l : Launch} {G : am_G} {M' : am_Mem} {N : Nat} {k70 : Nat → Nat → Int32 → Int32 → Int32 → am_Mem → Option (Unit × am_Mem)} (cx : am_Ctx l rm0_takeTurned yX0_takeTurned cX0_takeTurned 14 none none M' 0 0 G) (hk70 : ∀ (r0 : Nat) (r1 : Nat) (x2 : Int32) (x3 : Int32) (x7 : Int32) (M : am_Mem), k70 r0 r1 x2 x3 x7 M = some ((), M') → G 70 [(0, .inr (.inr r0)), (1, .inr (.inr r1)), (2, .inl x2), (3, .inl x3), (7, .inl x7)] [] M 0 0) {r0 : Nat} {r1 : Nat} {x2 : Int32} {x3 : Int32} {x7 : Int32} {x8 : Int32} {x9 : Int32} {M : am_Mem} (hres : fn0_takeTurned_b105 N k70 r0 r1 x2 x3 x7 x8 x9 M = some ((), M')) : G 105 [(0, .inr (.inr r0)), (1, .inr (.inr r1)), (2, .inl x2), (3, .inl x3), (7, .inl x7), (8, .inl x8), (9, .inl x9)] [] M 0 0 := by
  unfold fn0_takeTurned_b105 at hres
  refine am_iload_n cx 2 dX0_takeTurned_105 rfl ?_
  refine am_iconst cx (v := (4 : Int32)) dX0_takeTurned_106 (by decide) ?_
  refine am_icmp_lt cx (tgt := 115) dX0_takeTurned_107 (by decide) (fun h => ?_) (fun h => ?_)
  · have hres := am_ifp h hres
    refine am_aload_n cx 1 dX0_takeTurned_115 rfl ?_
    obtain ⟨q1, hres⟩ := am_ck_some hres
    refine am_getR cx dX0_takeTurned_116 flX0_34 (am_ke q1) ?_
    refine am_iload cx 4 dX0_takeTurned_119 rfl ?_
    obtain ⟨q2, hres⟩ := am_ck_some hres
    obtain ⟨q3, hres⟩ := am_ck_some hres
    refine am_iald cx dX0_takeTurned_121 (am_ke q2) q3 ?_
    exact sn0_takeTurned_b122 cx hk70 hres
  · have hres := am_ifn h hres
    refine am_iload cx 5 dX0_takeTurned_110 rfl ?_
    refine am_goto cx (tgt := 122) dX0_takeTurned_112 (by decide) ?_
    exact sn0_takeTurned_b122 cx hk70 hres
set_option maxRecDepth 20000 in
theorem sn0_takeTurned_b92 {l : Launch} {G : am_G} {M' : am_Mem} {N : Nat} {k70 : Nat → Nat → Int32 → Int32 → Int32 → am_Mem → Option (Unit × am_Mem)} (cx : am_Ctx l rm0_takeTurned yX0_takeTurned cX0_takeTurned 14 none none M' 0 0 G) (hk70 : ∀ (r0 : Nat) (r1 : Nat) (x2 : Int32) (x3 : Int32) (x7 : Int32) (M : am_Mem), k70 r0 r1 x2 x3 x7 M = some ((), M') → G 70 [(0, .inr (.inr r0)), (1, .inr (.inr r1)), (2, .inl x2), (3, .inl x3), (7, .inl x7)] [] M 0 0) {r0 : Nat} {r1 : Nat} {x2 : Int32} {x3 : Int32} {x7 : Int32} {x8 : Int32} {M : am_Mem} (hres : fn0_takeTurned_b92 N k70 r0 r1 x2 x3 x7 x8 M = some ((), M')) : G 92 [(0, .inr (.inr r0)), (1, .inr (.inr r1)), (2, .inl x2), (3, .inl x3), (7, .inl x7), (8, .inl x8)] [] M 0 0 := by
  unfold fn0_takeTurned_b92 at hres
  refine am_aload_n cx 1 dX0_takeTurned_92 rfl ?_
  obtain ⟨q1, hres⟩ := am_ck_some hres
  refine am_getI cx dX0_takeTurned_93 flX0_41 (am_ke q1) ?_
  refine am_aload_n cx 1 dX0_takeTurned_96 rfl ?_
  refine am_iload cx 4 dX0_takeTurned_97 rfl ?_
  obtain ⟨v2, M3, q4, hres⟩ := am_bd_some hres
  refine am_callV1 cx [.inl x7] dX0_takeTurned_99 cvX0_51 (mt10_bottom q4) (am_ke q1) ⟨rfl, rfl, Nat.le_of_ble_eq_true rfl, Nat.le_of_ble_eq_true rfl⟩ rfl (Nat.le_of_ble_eq_true rfl) ⟨Nat.le_of_ble_eq_true rfl, Nat.le_of_ble_eq_true rfl⟩ ?_
  refine am_isub cx dX0_takeTurned_102 ?_
  refine am_istore cx (lv' := [(0, .inr (.inr r0)), (1, .inr (.inr r1)), (2, .inl x2), (3, .inl x3), (7, .inl x7), (8, .inl x8), (9, .inl ((am_I M r1 6) - v2))]) dX0_takeTurned_103 (Nat.le_of_ble_eq_true rfl) rfl ?_
  exact sn0_takeTurned_b105 cx hk70 hres
set_option maxRecDepth 20000 in
theorem sn0_takeTurned_b70B {l : Launch} {G : am_G} {M' : am_Mem} {N : Nat} {k70 : Nat → Nat → Int32 → Int32 → Int32 → am_Mem → Option (Unit × am_Mem)} (cx : am_Ctx l rm0_takeTurned yX0_takeTurned cX0_takeTurned 14 none none M' 0 0 G) (hk70 : ∀ (r0 : Nat) (r1 : Nat) (x2 : Int32) (x3 : Int32) (x7 : Int32) (M : am_Mem), k70 r0 r1 x2 x3 x7 M = some ((), M') → G 70 [(0, .inr (.inr r0)), (1, .inr (.inr r1)), (2, .inl x2), (3, .inl x3), (7, .inl x7)] [] M 0 0) {r0 : Nat} {r1 : Nat} {x2 : Int32} {x3 : Int32} {x7 : Int32} {M : am_Mem} (hres : fn0_takeTurned_b70B N k70 r0 r1 x2 x3 x7 M = some ((), M')) : G 70 [(0, .inr (.inr r0)), (1, .inr (.inr r1)), (2, .inl x2), (3, .inl x3), (7, .inl x7)] [] M 0 0 := by
  unfold fn0_takeTurned_b70B at hres
  refine am_iload cx 4 dX0_takeTurned_70 rfl ?_
  refine am_aload_n cx 1 dX0_takeTurned_72 rfl ?_
  obtain ⟨q1, hres⟩ := am_ck_some hres
  refine am_getI cx dX0_takeTurned_73 flX0_31 (am_ke q1) ?_
  refine am_icmp_ge cx (tgt := 263) dX0_takeTurned_76 (by decide) (fun h => ?_) (fun h => ?_)
  · have hres := am_ifp h hres
    refine am_aload_n cx 0 dX0_takeTurned_263 rfl ?_
    obtain ⟨q2, hres⟩ := am_ck_some hres
    obtain ⟨v3, M4, q5, hres⟩ := am_bd_some hres
    refine am_callV0 cx [] dX0_takeTurned_264 cvX0_54 (mt0_sortAsCode q5) (am_ke q2) ⟨rfl, rfl, Nat.le_of_ble_eq_true rfl, Nat.le_of_ble_eq_true rfl⟩ rfl (Nat.le_of_ble_eq_true rfl) ⟨Nat.le_of_ble_eq_true rfl, Nat.le_of_ble_eq_true rfl⟩ ?_
    obtain ⟨-, rfl⟩ := am_fin hres
    exact am_vret cx dX0_takeTurned_267
  · have hres := am_ifn h hres
    refine am_aload_n cx 1 dX0_takeTurned_79 rfl ?_
    refine am_getI cx dX0_takeTurned_80 flX0_42 (am_ke q1) ?_
    refine am_aload_n cx 1 dX0_takeTurned_83 rfl ?_
    refine am_iload cx 4 dX0_takeTurned_84 rfl ?_
    obtain ⟨v6, M7, q8, hres⟩ := am_bd_some hres
    refine am_callV1 cx [.inl x7] dX0_takeTurned_86 cvX0_47 (mt10_right q8) (am_ke q1) ⟨rfl, rfl, Nat.le_of_ble_eq_true rfl, Nat.le_of_ble_eq_true rfl⟩ rfl (Nat.le_of_ble_eq_true rfl) ⟨Nat.le_of_ble_eq_true rfl, Nat.le_of_ble_eq_true rfl⟩ ?_
    refine am_isub cx dX0_takeTurned_89 ?_
    refine am_istore cx (lv' := [(0, .inr (.inr r0)), (1, .inr (.inr r1)), (2, .inl x2), (3, .inl x3), (7, .inl x7), (8, .inl ((am_I M r1 5) - v6))]) dX0_takeTurned_90 (Nat.le_of_ble_eq_true rfl) rfl ?_
    exact sn0_takeTurned_b92 cx hk70 hres
set_option maxRecDepth 20000 in
theorem sn0_takeTurned_b70 {l : Launch} {G : am_G} {M' : am_Mem} {N : Nat}  (cx : am_Ctx l rm0_takeTurned yX0_takeTurned cX0_takeTurned 14 none none M' 0 0 G)  (i : Nat) : ∀ (r0 : Nat) (r1 : Nat) (x2 : Int32) (x3 : Int32) (x7 : Int32) (M : am_Mem), fn0_takeTurned_b70 N  i r0 r1 x2 x3 x7 M = some ((), M') → G 70 [(0, .inr (.inr r0)), (1, .inr (.inr r1)), (2, .inl x2), (3, .inl x3), (7, .inl x7)] [] M 0 0 := by
  induction i with
  | zero => intro r0 r1 x2 x3 x7 M hres; exact am_no hres
  | succ i ih => intro r0 r1 x2 x3 x7 M hres; exact sn0_takeTurned_b70B cx ih hres
set_option maxRecDepth 20000 in
theorem sn0_takeTurned_b55 {l : Launch} {G : am_G} {M' : am_Mem} {N : Nat}  (cx : am_Ctx l rm0_takeTurned yX0_takeTurned cX0_takeTurned 14 none none M' 0 0 G)  {r0 : Nat} {r1 : Nat} {x2 : Int32} {x3 : Int32} {x5 : Int32} {x6 : Int32} {M : am_Mem} (hres : fn0_takeTurned_b55 N  r0 r1 x2 x3 x5 x6 M = some ((), M')) : G 55 [(0, .inr (.inr r0)), (1, .inr (.inr r1)), (2, .inl x2), (3, .inl x3), (5, .inl x5), (6, .inl x6)] [] M 0 0 := by
  unfold fn0_takeTurned_b55 at hres
  refine am_aload_n cx 0 dX0_takeTurned_55 rfl ?_
  refine am_iload cx 4 dX0_takeTurned_56 rfl ?_
  refine am_iload_n cx 3 dX0_takeTurned_58 rfl ?_
  obtain ⟨q1, hres⟩ := am_ck_some hres
  refine am_idiv cx dX0_takeTurned_59 (of_decide_eq_true q1) ?_
  refine am_iload cx 5 dX0_takeTurned_60 rfl ?_
  refine am_iload_n cx 3 dX0_takeTurned_62 rfl ?_
  obtain ⟨q2, hres⟩ := am_ck_some hres
  refine am_idiv cx dX0_takeTurned_63 (of_decide_eq_true q2) ?_
  obtain ⟨q3, hres⟩ := am_ck_some hres
  obtain ⟨v4, M5, q6, hres⟩ := am_bd_some hres
  refine am_callV0 cx [.inl (x5 / x3), .inl (x6 / x3)] dX0_takeTurned_64 cvX0_43 (mt0_begin q6) (am_ke q3) ⟨rfl, rfl, Nat.le_of_ble_eq_true rfl, Nat.le_of_ble_eq_true rfl⟩ rfl (Nat.le_of_ble_eq_true rfl) ⟨Nat.le_of_ble_eq_true rfl, Nat.le_of_ble_eq_true rfl⟩ ?_
  refine am_iconst cx (v := (0 : Int32)) dX0_takeTurned_67 (by decide) ?_
  refine am_istore cx (lv' := [(0, .inr (.inr r0)), (1, .inr (.inr r1)), (2, .inl x2), (3, .inl x3), (5, .inl x5), (6, .inl x6), (7, .inl (0 : Int32))]) dX0_takeTurned_68 (Nat.le_of_ble_eq_true rfl) rfl ?_
  refine am_sub cx [0, 1, 2, 3, 6] rfl ?_
  exact sn0_takeTurned_b70 cx  N _ _ _ _ _ _ hres
set_option maxRecDepth 20000 in
theorem sn0_takeTurned_b53 {l : Launch} {G : am_G} {M' : am_Mem} {N : Nat}  (cx : am_Ctx l rm0_takeTurned yX0_takeTurned cX0_takeTurned 14 none none M' 0 0 G)  {a0 : Int32} {r0 : Nat} {r1 : Nat} {x2 : Int32} {x3 : Int32} {x5 : Int32} {M : am_Mem} (hres : fn0_takeTurned_b53 N  a0 r0 r1 x2 x3 x5 M = some ((), M')) : G 53 [(0, .inr (.inr r0)), (1, .inr (.inr r1)), (2, .inl x2), (3, .inl x3), (5, .inl x5)] [.inl a0] M 0 0 := by
  unfold fn0_takeTurned_b53 at hres
  refine am_istore cx (lv' := [(0, .inr (.inr r0)), (1, .inr (.inr r1)), (2, .inl x2), (3, .inl x3), (5, .inl x5), (6, .inl a0)]) dX0_takeTurned_53 (Nat.le_of_ble_eq_true rfl) rfl ?_
  exact sn0_takeTurned_b55 cx  hres
set_option maxRecDepth 20000 in
theorem sn0_takeTurned_b37 {l : Launch} {G : am_G} {M' : am_Mem} {N : Nat}  (cx : am_Ctx l rm0_takeTurned yX0_takeTurned cX0_takeTurned 14 none none M' 0 0 G)  {r0 : Nat} {r1 : Nat} {x2 : Int32} {x3 : Int32} {x4 : Int32} {x5 : Int32} {M : am_Mem} (hres : fn0_takeTurned_b37 N  r0 r1 x2 x3 x4 x5 M = some ((), M')) : G 37 [(0, .inr (.inr r0)), (1, .inr (.inr r1)), (2, .inl x2), (3, .inl x3), (4, .inl x4), (5, .inl x5)] [] M 0 0 := by
  unfold fn0_takeTurned_b37 at hres
  refine am_iload cx 4 dX0_takeTurned_37 rfl ?_
  refine am_if_eq cx (tgt := 49) dX0_takeTurned_39 (by decide) (fun h => ?_) (fun h => ?_)
  · have hres := am_ifp h hres
    refine am_aload_n cx 1 dX0_takeTurned_49 rfl ?_
    obtain ⟨q1, hres⟩ := am_ck_some hres
    refine am_getI cx dX0_takeTurned_50 flX0_41 (am_ke q1) ?_
    refine am_sub cx [0, 1, 2, 3, 5] rfl ?_
    exact sn0_takeTurned_b53 cx  hres
  · have hres := am_ifn h hres
    refine am_aload_n cx 1 dX0_takeTurned_42 rfl ?_
    obtain ⟨q2, hres⟩ := am_ck_some hres
    refine am_getI cx dX0_takeTurned_43 flX0_42 (am_ke q2) ?_
    refine am_goto cx (tgt := 53) dX0_takeTurned_46 (by decide) ?_
    refine am_sub cx [0, 1, 2, 3, 5] rfl ?_
    exact sn0_takeTurned_b53 cx  hres
set_option maxRecDepth 20000 in
theorem sn0_takeTurned_b35 {l : Launch} {G : am_G} {M' : am_Mem} {N : Nat}  (cx : am_Ctx l rm0_takeTurned yX0_takeTurned cX0_takeTurned 14 none none M' 0 0 G)  {a0 : Int32} {r0 : Nat} {r1 : Nat} {x2 : Int32} {x3 : Int32} {x4 : Int32} {M : am_Mem} (hres : fn0_takeTurned_b35 N  a0 r0 r1 x2 x3 x4 M = some ((), M')) : G 35 [(0, .inr (.inr r0)), (1, .inr (.inr r1)), (2, .inl x2), (3, .inl x3), (4, .inl x4)] [.inl a0] M 0 0 := by
  unfold fn0_takeTurned_b35 at hres
  refine am_istore cx (lv' := [(0, .inr (.inr r0)), (1, .inr (.inr r1)), (2, .inl x2), (3, .inl x3), (4, .inl x4), (5, .inl a0)]) dX0_takeTurned_35 (Nat.le_of_ble_eq_true rfl) rfl ?_
  exact sn0_takeTurned_b37 cx  hres
set_option maxRecDepth 20000 in
theorem sn0_takeTurned_b17 {l : Launch} {G : am_G} {M' : am_Mem} {N : Nat}  (cx : am_Ctx l rm0_takeTurned yX0_takeTurned cX0_takeTurned 14 none none M' 0 0 G)  {a0 : Int32} {r0 : Nat} {r1 : Nat} {x2 : Int32} {x3 : Int32} {M : am_Mem} (hres : fn0_takeTurned_b17 N  a0 r0 r1 x2 x3 M = some ((), M')) : G 17 [(0, .inr (.inr r0)), (1, .inr (.inr r1)), (2, .inl x2), (3, .inl x3)] [.inl a0] M 0 0 := by
  unfold fn0_takeTurned_b17 at hres
  refine am_istore cx (lv' := [(0, .inr (.inr r0)), (1, .inr (.inr r1)), (2, .inl x2), (3, .inl x3), (4, .inl a0)]) dX0_takeTurned_17 (Nat.le_of_ble_eq_true rfl) rfl ?_
  refine am_iload cx 4 dX0_takeTurned_19 rfl ?_
  refine am_if_eq cx (tgt := 31) dX0_takeTurned_21 (by decide) (fun h => ?_) (fun h => ?_)
  · have hres := am_ifp h hres
    refine am_aload_n cx 1 dX0_takeTurned_31 rfl ?_
    obtain ⟨q1, hres⟩ := am_ck_some hres
    refine am_getI cx dX0_takeTurned_32 flX0_42 (am_ke q1) ?_
    exact sn0_takeTurned_b35 cx  hres
  · have hres := am_ifn h hres
    refine am_aload_n cx 1 dX0_takeTurned_24 rfl ?_
    obtain ⟨q2, hres⟩ := am_ck_some hres
    refine am_getI cx dX0_takeTurned_25 flX0_41 (am_ke q2) ?_
    refine am_goto cx (tgt := 35) dX0_takeTurned_28 (by decide) ?_
    exact sn0_takeTurned_b35 cx  hres
set_option maxRecDepth 20000 in
theorem sn0_takeTurned_b0 {l : Launch} {G : am_G} {M' : am_Mem} {N : Nat}  (cx : am_Ctx l rm0_takeTurned yX0_takeTurned cX0_takeTurned 14 none none M' 0 0 G)  {r0 : Nat} {r1 : Nat} {x2 : Int32} {x3 : Int32} {M : am_Mem} (hres : fn0_takeTurned_b0 N  r0 r1 x2 x3 M = some ((), M')) : G 0 [(0, .inr (.inr r0)), (1, .inr (.inr r1)), (2, .inl x2), (3, .inl x3)] [] M 0 0 := by
  unfold fn0_takeTurned_b0 at hres
  refine am_iload_n cx 3 dX0_takeTurned_0 rfl ?_
  refine am_if_ne cx (tgt := 5) dX0_takeTurned_1 (by decide) (fun h => ?_) (fun h => ?_)
  · have hres := am_ifn h hres
    refine am_iload_n cx 2 dX0_takeTurned_5 rfl ?_
    refine am_iconst cx (v := (1 : Int32)) dX0_takeTurned_6 (by decide) ?_
    refine am_iand cx dX0_takeTurned_7 ?_
    refine am_iconst cx (v := (1 : Int32)) dX0_takeTurned_8 (by decide) ?_
    refine am_icmp_ne cx (tgt := 16) dX0_takeTurned_9 (by decide) (fun h => ?_) (fun h => ?_)
    · have hres := am_ifn h hres
      refine am_iconst cx (v := (0 : Int32)) dX0_takeTurned_16 (by decide) ?_
      exact sn0_takeTurned_b17 cx  hres
    · have hres := am_ifp h hres
      refine am_iconst cx (v := (1 : Int32)) dX0_takeTurned_12 (by decide) ?_
      refine am_goto cx (tgt := 17) dX0_takeTurned_13 (by decide) ?_
      exact sn0_takeTurned_b17 cx  hres
  · have hres := am_ifp h hres
    obtain ⟨-, rfl⟩ := am_fin hres
    exact am_vret cx dX0_takeTurned_4
set_option maxRecDepth 20000 in
theorem mt0_takeTurned {l : Launch} {M M' : am_Mem} {N : Nat} {r0 : Nat} {r1 : Nat} {x2 : Int32} {x3 : Int32} (h : fn0_takeTurned N M r0 r1 x2 x3 = some ((), M')) : am_Met l yX0_takeTurned cX0_takeTurned 14 none rm0_takeTurned 0 0 [.inr (.inr r0), .inr (.inr r1), .inl x2, .inl x3] M none M' := am_mk (by decide) (Nat.le_of_ble_eq_true rfl) (fun G cx => (sn0_takeTurned_b0 cx h))
-- SquareCuts$GroupLayer.layGroup
def fn1_layGroup_b77 (N : Nat)   (M : am_Mem) : Option (Unit × am_Mem) :=
  some ((), M)
def fn1_layGroup_b10B (N : Nat) (k10 : Nat → Nat → Nat → Int32 → Nat → Int32 → Int32 → am_Mem → Option (Unit × am_Mem)) (r0 : Nat) (r1 : Nat) (r2 : Nat) (x3 : Int32) (r4 : Nat) (x5 : Int32) (x6 : Int32) (M : am_Mem) : Option (Unit × am_Mem) :=
  if x3 ≤ x6 then fn1_layGroup_b77 N   M else am_ck (am_k M r2 14) (am_ck (am_in x6 (am_L M r2)) (am_ck (am_in x5 (am_L M r2)) (if (am_I M r2 x6.toNatClampNeg) = (am_I M r2 x5.toNatClampNeg) then am_ck (am_k M r0 1) (am_ck (am_k M (am_R M r0 0) 6) (am_bd (fn6_notchLeft M (am_R M r0 0)) (fun v6 M7 => am_ck (am_k M7 r0 1) (am_ck (am_k M7 (am_R M7 r0 0) 6) (am_bd (fn6_notchDepth M7 (am_R M7 r0 0)) (fun v11 M12 => am_ck (am_k M12 r1 14) (am_ck (am_in x6 (am_L M12 r1)) (am_ck (am_k M12 r4 0) (am_bd (fn0_add M12 r4 v6 v11 (am_I M12 r1 x6.toNatClampNeg)) (fun v17 M18 => am_ck (am_k M18 r0 1) (am_ck (am_k M18 r1 14) (am_ck (am_in x6 (am_L M18 r1)) (am_ck (am_k M18 (am_R M18 r0 0) 6) (am_bd (fn6_lay N M18 (am_R M18 r0 0) (am_I M18 r1 x6.toNatClampNeg)) (fun v24 M25 => am_ck (am_k M25 r0 1) (k10 r0 r1 r2 x3 r4 x5 (x6 + (1 : Int32)) (am_wI M25 r0 1 ((am_I M25 r0 1) + (1 : Int32))))))))))))))))))) else fn1_layGroup_b77 N   M)))
def fn1_layGroup_b10 (N : Nat)  : Nat → Nat → Nat → Nat → Int32 → Nat → Int32 → Int32 → am_Mem → Option (Unit × am_Mem)
  | 0 => fun _ _ _ _ _ _ _ _ => none
  | i + 1 => fn1_layGroup_b10B N (fn1_layGroup_b10 N  i)
def fn1_layGroup_b6 (N : Nat)  (r0 : Nat) (r1 : Nat) (r2 : Nat) (x3 : Int32) (r4 : Nat) (x5 : Int32) (M : am_Mem) : Option (Unit × am_Mem) :=
  fn1_layGroup_b10 N  N r0 r1 r2 x3 r4 x5 x5 M
def fn1_layGroup_b0 (N : Nat)  (r0 : Nat) (r1 : Nat) (r2 : Nat) (x3 : Int32) (r4 : Nat) (M : am_Mem) : Option (Unit × am_Mem) :=
  am_ck (am_k M r0 1) (fn1_layGroup_b6 N  r0 r1 r2 x3 r4 (am_I M r0 1) M)
def fn1_layGroup (N : Nat) (M : am_Mem) (r0 : Nat) (r1 : Nat) (r2 : Nat) (x3 : Int32) (r4 : Nat) : Option (Unit × am_Mem) := fn1_layGroup_b0 N r0 r1 r2 x3 r4 M
def rm1_layGroup : Room := { frames := 2, cells := 0, slots := 0, locals := 45 }
set_option maxRecDepth 20000 in
theorem sn1_layGroup_b77 {l : Launch} {G : am_G} {M' : am_Mem} {N : Nat}  (cx : am_Ctx l rm1_layGroup yX1_layGroup cX1_layGroup 7 none none M' 0 0 G)   {M : am_Mem} (hres : fn1_layGroup_b77 N   M = some ((), M')) : G 77 [] [] M 0 0 := by
  unfold fn1_layGroup_b77 at hres
  obtain ⟨-, rfl⟩ := am_fin hres
  exact am_vret cx dX1_layGroup_77
set_option maxRecDepth 20000 in
theorem sn1_layGroup_b10B {l : Launch} {G : am_G} {M' : am_Mem} {N : Nat} {k10 : Nat → Nat → Nat → Int32 → Nat → Int32 → Int32 → am_Mem → Option (Unit × am_Mem)} (cx : am_Ctx l rm1_layGroup yX1_layGroup cX1_layGroup 7 none none M' 0 0 G) (hk10 : ∀ (r0 : Nat) (r1 : Nat) (r2 : Nat) (x3 : Int32) (r4 : Nat) (x5 : Int32) (x6 : Int32) (M : am_Mem), k10 r0 r1 r2 x3 r4 x5 x6 M = some ((), M') → G 10 [(0, .inr (.inr r0)), (1, .inr (.inr r1)), (2, .inr (.inr r2)), (3, .inl x3), (4, .inr (.inr r4)), (5, .inl x5), (6, .inl x6)] [] M 0 0) {r0 : Nat} {r1 : Nat} {r2 : Nat} {x3 : Int32} {r4 : Nat} {x5 : Int32} {x6 : Int32} {M : am_Mem} (hres : fn1_layGroup_b10B N k10 r0 r1 r2 x3 r4 x5 x6 M = some ((), M')) : G 10 [(0, .inr (.inr r0)), (1, .inr (.inr r1)), (2, .inr (.inr r2)), (3, .inl x3), (4, .inr (.inr r4)), (5, .inl x5), (6, .inl x6)] [] M 0 0 := by
  unfold fn1_layGroup_b10B at hres
  refine am_iload cx 6 dX1_layGroup_10 rfl ?_
  refine am_iload_n cx 3 dX1_layGroup_12 rfl ?_
  refine am_icmp_ge cx (tgt := 77) dX1_layGroup_13 (by decide) (fun h => ?_) (fun h => ?_)
  · have hres := am_ifp h hres
    refine am_sub cx [] rfl ?_
    exact sn1_layGroup_b77 cx  hres
  · have hres := am_ifn h hres
    refine am_aload_n cx 2 dX1_layGroup_16 rfl ?_
    refine am_iload cx 6 dX1_layGroup_17 rfl ?_
    obtain ⟨q1, hres⟩ := am_ck_some hres
    obtain ⟨q2, hres⟩ := am_ck_some hres
    refine am_iald cx dX1_layGroup_19 (am_ke q1) q2 ?_
    refine am_aload_n cx 2 dX1_layGroup_20 rfl ?_
    refine am_iload cx 5 dX1_layGroup_21 rfl ?_
    obtain ⟨q3, hres⟩ := am_ck_some hres
    refine am_iald cx dX1_layGroup_23 (am_ke q1) q3 ?_
    refine am_icmp_ne cx (tgt := 77) dX1_layGroup_24 (by decide) (fun h => ?_) (fun h => ?_)
    · have hres := am_ifn h hres
      refine am_sub cx [] rfl ?_
      exact sn1_layGroup_b77 cx  hres
    · have hres := am_ifp h hres
      refine am_aload cx 4 dX1_layGroup_27 rfl ?_
      refine am_aload_n cx 0 dX1_layGroup_29 rfl ?_
      obtain ⟨q4, hres⟩ := am_ck_some hres
      refine am_getR cx dX1_layGroup_30 flX1_14 (am_ke q4) ?_
      obtain ⟨q5, hres⟩ := am_ck_some hres
      obtain ⟨v6, M7, q8, hres⟩ := am_bd_some hres
      refine am_callV1 cx [] dX1_layGroup_33 cvX1_54 (mt6_notchLeft q8) (am_ke q5) ⟨rfl, rfl, Nat.le_of_ble_eq_true rfl, Nat.le_of_ble_eq_true rfl⟩ rfl (Nat.le_of_ble_eq_true rfl) ⟨Nat.le_of_ble_eq_true rfl, Nat.le_of_ble_eq_true rfl⟩ ?_
      refine am_aload_n cx 0 dX1_layGroup_36 rfl ?_
      obtain ⟨q9, hres⟩ := am_ck_some hres
      refine am_getR cx dX1_layGroup_37 flX1_14 (am_ke q9) ?_
      obtain ⟨q10, hres⟩ := am_ck_some hres
      obtain ⟨v11, M12, q13, hres⟩ := am_bd_some hres
      refine am_callV1 cx [] dX1_layGroup_40 cvX1_45 (mt6_notchDepth q13) (am_ke q10) ⟨rfl, rfl, Nat.le_of_ble_eq_true rfl, Nat.le_of_ble_eq_true rfl⟩ rfl (Nat.le_of_ble_eq_true rfl) ⟨Nat.le_of_ble_eq_true rfl, Nat.le_of_ble_eq_true rfl⟩ ?_
      refine am_aload_n cx 1 dX1_layGroup_43 rfl ?_
      refine am_iload cx 6 dX1_layGroup_44 rfl ?_
      obtain ⟨q14, hres⟩ := am_ck_some hres
      obtain ⟨q15, hres⟩ := am_ck_some hres
      refine am_iald cx dX1_layGroup_46 (am_ke q14) q15 ?_
      obtain ⟨q16, hres⟩ := am_ck_some hres
      obtain ⟨v17, M18, q19, hres⟩ := am_bd_some hres
      refine am_callV0 cx [.inl v6, .inl v11, .inl (am_I M12 r1 x6.toNatClampNeg)] dX1_layGroup_47 cvX1_57 (mt0_add q19) (am_ke q16) ⟨rfl, rfl, Nat.le_of_ble_eq_true rfl, Nat.le_of_ble_eq_true rfl⟩ rfl (Nat.le_of_ble_eq_true rfl) ⟨Nat.le_of_ble_eq_true rfl, Nat.le_of_ble_eq_true rfl⟩ ?_
      refine am_aload_n cx 0 dX1_layGroup_50 rfl ?_
      obtain ⟨q20, hres⟩ := am_ck_some hres
      refine am_getR cx dX1_layGroup_51 flX1_14 (am_ke q20) ?_
      refine am_aload_n cx 1 dX1_layGroup_54 rfl ?_
      refine am_iload cx 6 dX1_layGroup_55 rfl ?_
      obtain ⟨q21, hres⟩ := am_ck_some hres
      obtain ⟨q22, hres⟩ := am_ck_some hres
      refine am_iald cx dX1_layGroup_57 (am_ke q21) q22 ?_
      obtain ⟨q23, hres⟩ := am_ck_some hres
      obtain ⟨v24, M25, q26, hres⟩ := am_bd_some hres
      refine am_callV0 cx [.inl (am_I M18 r1 x6.toNatClampNeg)] dX1_layGroup_58 cvX1_61 (mt6_lay q26) (am_ke q23) ⟨rfl, rfl, Nat.le_of_ble_eq_true rfl, Nat.le_of_ble_eq_true rfl⟩ rfl (Nat.le_of_ble_eq_true rfl) ⟨Nat.le_of_ble_eq_true rfl, Nat.le_of_ble_eq_true rfl⟩ ?_
      refine am_aload_n cx 0 dX1_layGroup_61 rfl ?_
      refine am_dup cx dX1_layGroup_62 rfl ?_
      obtain ⟨q27, hres⟩ := am_ck_some hres
      refine am_getI cx dX1_layGroup_63 flX1_20 (am_ke q27) ?_
      refine am_iconst cx (v := (1 : Int32)) dX1_layGroup_66 (by decide) ?_
      refine am_iadd cx dX1_layGroup_67 ?_
      refine am_putI cx dX1_layGroup_68 fpX1_20 (fun h => by cases h) (am_ke q27) ?_
      refine am_iincw cx (lv' := [(0, .inr (.inr r0)), (1, .inr (.inr r1)), (2, .inr (.inr r2)), (3, .inl x3), (4, .inr (.inr r4)), (5, .inl x5), (6, .inl (x6 + (1 : Int32)))]) (w := (1 : Int32)) 6 dX1_layGroup_71 (by decide) rfl (Nat.le_of_ble_eq_true rfl) rfl ?_
      refine am_goto cx (tgt := 10) dX1_layGroup_74 (by decide) ?_
      exact hk10 _ _ _ _ _ _ _ _ hres
set_option maxRecDepth 20000 in
theorem sn1_layGroup_b10 {l : Launch} {G : am_G} {M' : am_Mem} {N : Nat}  (cx : am_Ctx l rm1_layGroup yX1_layGroup cX1_layGroup 7 none none M' 0 0 G)  (i : Nat) : ∀ (r0 : Nat) (r1 : Nat) (r2 : Nat) (x3 : Int32) (r4 : Nat) (x5 : Int32) (x6 : Int32) (M : am_Mem), fn1_layGroup_b10 N  i r0 r1 r2 x3 r4 x5 x6 M = some ((), M') → G 10 [(0, .inr (.inr r0)), (1, .inr (.inr r1)), (2, .inr (.inr r2)), (3, .inl x3), (4, .inr (.inr r4)), (5, .inl x5), (6, .inl x6)] [] M 0 0 := by
  induction i with
  | zero => intro r0 r1 r2 x3 r4 x5 x6 M hres; exact am_no hres
  | succ i ih => intro r0 r1 r2 x3 r4 x5 x6 M hres; exact sn1_layGroup_b10B cx ih hres
set_option maxRecDepth 20000 in
theorem sn1_layGroup_b6 {l : Launch} {G : am_G} {M' : am_Mem} {N : Nat}  (cx : am_Ctx l rm1_layGroup yX1_layGroup cX1_layGroup 7 none none M' 0 0 G)  {r0 : Nat} {r1 : Nat} {r2 : Nat} {x3 : Int32} {r4 : Nat} {x5 : Int32} {M : am_Mem} (hres : fn1_layGroup_b6 N  r0 r1 r2 x3 r4 x5 M = some ((), M')) : G 6 [(0, .inr (.inr r0)), (1, .inr (.inr r1)), (2, .inr (.inr r2)), (3, .inl x3), (4, .inr (.inr r4)), (5, .inl x5)] [] M 0 0 := by
  unfold fn1_layGroup_b6 at hres
  refine am_iload cx 5 dX1_layGroup_6 rfl ?_
  refine am_istore cx (lv' := [(0, .inr (.inr r0)), (1, .inr (.inr r1)), (2, .inr (.inr r2)), (3, .inl x3), (4, .inr (.inr r4)), (5, .inl x5), (6, .inl x5)]) dX1_layGroup_8 (Nat.le_of_ble_eq_true rfl) rfl ?_
  exact sn1_layGroup_b10 cx  N _ _ _ _ _ _ _ _ hres
set_option maxRecDepth 20000 in
theorem sn1_layGroup_b0 {l : Launch} {G : am_G} {M' : am_Mem} {N : Nat}  (cx : am_Ctx l rm1_layGroup yX1_layGroup cX1_layGroup 7 none none M' 0 0 G)  {r0 : Nat} {r1 : Nat} {r2 : Nat} {x3 : Int32} {r4 : Nat} {M : am_Mem} (hres : fn1_layGroup_b0 N  r0 r1 r2 x3 r4 M = some ((), M')) : G 0 [(0, .inr (.inr r0)), (1, .inr (.inr r1)), (2, .inr (.inr r2)), (3, .inl x3), (4, .inr (.inr r4))] [] M 0 0 := by
  unfold fn1_layGroup_b0 at hres
  refine am_aload_n cx 0 dX1_layGroup_0 rfl ?_
  obtain ⟨q1, hres⟩ := am_ck_some hres
  refine am_getI cx dX1_layGroup_1 flX1_20 (am_ke q1) ?_
  refine am_istore cx (lv' := [(0, .inr (.inr r0)), (1, .inr (.inr r1)), (2, .inr (.inr r2)), (3, .inl x3), (4, .inr (.inr r4)), (5, .inl (am_I M r0 1))]) dX1_layGroup_4 (Nat.le_of_ble_eq_true rfl) rfl ?_
  exact sn1_layGroup_b6 cx  hres
set_option maxRecDepth 20000 in
theorem mt1_layGroup {l : Launch} {M M' : am_Mem} {N : Nat} {r0 : Nat} {r1 : Nat} {r2 : Nat} {x3 : Int32} {r4 : Nat} (h : fn1_layGroup N M r0 r1 r2 x3 r4 = some ((), M')) : am_Met l yX1_layGroup cX1_layGroup 7 none rm1_layGroup 0 0 [.inr (.inr r0), .inr (.inr r1), .inr (.inr r2), .inl x3, .inr (.inr r4)] M none M' := am_mk (by decide) (Nat.le_of_ble_eq_true rfl) (fun G cx => (sn1_layGroup_b0 cx h))
