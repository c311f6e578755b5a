def growF (L : List Sq) (q : Sq) (k : Nat) : Sq := if k < L.length then sqF L k else q
theorem growF_of (L : List Sq) (q : Sq) : ofF (growF L q) (L.length + 1) = L ++ [q] := by
  rw [ofF_succ, ofF_ext (f := growF L q) (g := sqF L) (n := L.length) (fun k hk => if_pos hk), sqF_of]
  rw [show growF L q L.length = q from if_neg (Nat.lt_irrefl _)]
theorem geo_below {w h : Int32} {L : List Sq} (g : Geo w.toInt h.toInt L) (hl : L.length + 1 ≤ 40) (hb : w.toInt + h.toInt ≤ 1000000000) : Geo w.toInt (w + h).toInt (L ++ [(0, h, w)]) := by
  have hp := geo_pos g
  have e0 : (w + h).toInt = h.toInt + w.toInt := by rw [i32_add (by omega) (by omega), Int.add_comm]
  rw [geo_Z] at g ⊢
  obtain ⟨g1, g2, g3, g4, g5⟩ := g
  rw [e0]
  refine ⟨by rw [List.length_append]; exact Nat.le_add_left _ _, by rw [List.length_append]; exact hl, by omega, by omega, ?_⟩
  have := geoZ_below (by omega) (by omega) g5 (geoZ_one (s := w.toInt) (by omega))
  rw [List.map_append]
  rw [show ([((0 : Int32), h, w)] : List Sq).map toZ = [((0 : Int), (0 : Int), w.toInt)].map (fun q => (q.1, q.2.1 + h.toInt, q.2.2)) from by
    show [((0 : Int), h.toInt, w.toInt)] = [((0 : Int), 0 + h.toInt, w.toInt)]
    rw [Int.zero_add]]
  exact this
theorem geo_right {w h : Int32} {L : List Sq} (g : Geo w.toInt h.toInt L) (hl : L.length + 1 ≤ 40) (hb : w.toInt + h.toInt ≤ 1000000000) : Geo (w + h).toInt h.toInt (L ++ [(w, 0, h)]) := by
  have hp := geo_pos g
  have e0 : (w + h).toInt = w.toInt + h.toInt := i32_add (by omega) (by omega)
  rw [geo_Z] at g ⊢
  obtain ⟨g1, g2, g3, g4, g5⟩ := g
  rw [e0]
  refine ⟨by rw [List.length_append]; exact Nat.le_add_left _ _, by rw [List.length_append]; exact hl, by omega, by omega, ?_⟩
  have := geoZ_right (by omega) (by omega) g5 (geoZ_one (s := h.toInt) (by omega))
  rw [List.map_append]
  rw [show ([(w, (0 : Int32), h)] : List Sq).map toZ = [((0 : Int), (0 : Int), h.toInt)].map (fun q => (q.1 + w.toInt, q.2.1, q.2.2)) from by
    show [(w.toInt, (0 : Int), h.toInt)] = [((0 : Int) + w.toInt, (0 : Int), h.toInt)]
    rw [Int.zero_add]]
  exact this
theorem i64_addT (a b : Int32) : (a.toInt64 + b.toInt64).toInt = a.toInt + b.toInt := by
  rw [Int64.toInt_add, Int32.toInt_toInt64, Int32.toInt_toInt64]
  have h1 := Int32.toInt_lt a
  have h2 := Int32.toInt_lt b
  have h3 := Int32.le_toInt a
  have h4 := Int32.le_toInt b
  rw [Int.bmod_def]
  omega
theorem i64_add32 (a b : Int32) : (a.toInt64 + b.toInt64).toInt32 = a + b := by
  rw [Int64.toInt32_add, Int32.toInt32_toInt64, Int32.toInt32_toInt64]
/-- the row with one square more -/
theorem gw_row {M : am_Mem} {n : Nat} {w h w' h' : Int32} {f : Nat → Sq} (c : RoC M n w h f) (hn : n < 40) {a b : Nat} {v x y z : Int32} (hq : f n = (x, y, z)) (hab : (a = 1 ∧ v = w' ∧ h' = h) ∨ (a = 2 ∧ v = h' ∧ w' = w)) :
    RoC (am_wI (am_wI (am_wI (am_wI (am_wI M 140 (4 + n) x) 140 (44 + n) y) 140 (84 + n) z) 140 a v) 140 0 (nI (n + 1))) (n + 1) w' h' f := by
  obtain ⟨c1, c2, c3, c4, c5⟩ := c
  have ha : ¬ a = 0 ∧ ¬ a = 3 ∧ a < 4 := by omega
  refine ⟨rI_eq _ _ _ _, ?_, ?_, ?_, fun k hk => ?_⟩
  · rcases hab with ⟨rfl, rfl, rfl⟩ | ⟨rfl, rfl, rfl⟩ <;> simp (disch := omega) only [rI_ix, rI_eq, c2]
  · rcases hab with ⟨rfl, rfl, rfl⟩ | ⟨rfl, rfl, rfl⟩ <;> simp (disch := omega) only [rI_ix, rI_eq, c3]
  · simp (disch := omega) only [rI_ix, c4]
  · by_cases e : k = n
    · subst e
      rw [hq]
      simp (disch := omega) only [rI_ix, rI_eq, and_self]
    · obtain ⟨d1, d2, d3⟩ := c5 k (by omega)
      simp (disch := omega) only [rI_ix, d1, d2, d3, and_self]
theorem gw_fs {M : am_Mem} {n a : Nat} {x y z v w : Int32} : Fs [140] M (am_wI (am_wI (am_wI (am_wI (am_wI M 140 (4 + n) x) 140 (44 + n) y) 140 (84 + n) z) 140 a v) 140 0 w) := by
  have m : (140 : Nat) ∈ [140] := List.mem_cons_self
  exact fs_trans (fs_trans (fs_trans (fs_trans (fs_wI _ _ _ m) (fs_wI _ _ _ m)) (fs_wI _ _ _ m)) (fs_wI _ _ _ m)) (fs_wI _ _ _ m)
theorem gw_m0 {N : Nat} {M : am_Mem} {n : Nat} {w h : Int32} {f : Nat → Sq} (s : Shp M) (c : RoC M n w h f) (hn : n < 40) : fn12_grow_b60 N 110 0 (nI n) M = am_bd (fn12_makes N (am_wI (am_wI (am_wI (am_wI (am_wI M 140 (4 + n) w) 140 (44 + n) 0) 140 (84 + n) h) 140 1 (w + h)) 140 0 (nI (n + 1))) 110) (fun v5 M6 => some (v5, M6)) := by
  have e1 := lit_add 4 n
  have e2 := lit_add 44 n
  have e3 := lit_add 84 n
  have i1 : am_in (nI (4 + n)) 124 = true := nk_in (by omega) (by decide)
  have i2 : am_in (nI (44 + n)) 124 = true := nk_in (by omega) (by decide)
  have i3 : am_in (nI (84 + n)) 124 = true := nk_in (by omega) (by decide)
  have j0 : am_in (0 : Int32) 124 = true := rfl
  have j1 : am_in (1 : Int32) 124 = true := rfl
  have j2 : am_in (2 : Int32) 124 = true := rfl
  have k0 : (0 : Int32).toNatClampNeg = 0 := rfl
  have k1 : (1 : Int32).toNatClampNeg = 1 := rfl
  have k2 : (2 : Int32).toNatClampNeg = 2 := rfl
  have l1 : (nI (4 + n)).toNatClampNeg = 4 + n := nI_clamp (by omega)
  have l2 : (nI (44 + n)).toNatClampNeg = 44 + n := nI_clamp (by omega)
  have l3 : (nI (84 + n)).toNatClampNeg = 84 + n := nI_clamp (by omega)
  unfold fn12_grow_b60 fn12_grow_b81 fn12_grow_b104 fn12_grow_b132 fn12_grow_b170
  simp (disch := omega) only [nk_k, qK_wI, qL_wI, qR_wI, sk110 s, sr110_48 s, sk140 s, sl140 s, eq_self, decide_true, nk_ck, if_true, e1, e2, e3, i1, i2, i3, j0, j1, j2, k0, k1, k2, l1, l2, l3, rI_ix, c.1, c.2.1, c.2.2.1, nI_1]
theorem gw_m1 {N : Nat} {M : am_Mem} {n : Nat} {w h : Int32} {f : Nat → Sq} (s : Shp M) (c : RoC M n w h f) (hn : n < 40) : fn12_grow_b60 N 110 1 (nI n) M = am_bd (fn12_makes N (am_wI (am_wI (am_wI (am_wI (am_wI M 140 (4 + n) 0) 140 (44 + n) h) 140 (84 + n) w) 140 2 (h + w)) 140 0 (nI (n + 1))) 110) (fun v5 M6 => some (v5, M6)) := by
  have e1 := lit_add 4 n
  have e2 := lit_add 44 n
  have e3 := lit_add 84 n
  have i1 : am_in (nI (4 + n)) 124 = true := nk_in (by omega) (by decide)
  have i2 : am_in (nI (44 + n)) 124 = true := nk_in (by omega) (by decide)
  have i3 : am_in (nI (84 + n)) 124 = true := nk_in (by omega) (by decide)
  have j0 : am_in (0 : Int32) 124 = true := rfl
  have j1 : am_in (1 : Int32) 124 = true := rfl
  have j2 : am_in (2 : Int32) 124 = true := rfl
  have k0 : (0 : Int32).toNatClampNeg = 0 := rfl
  have k1 : (1 : Int32).toNatClampNeg = 1 := rfl
  have k2 : (2 : Int32).toNatClampNeg = 2 := rfl
  have l1 : (nI (4 + n)).toNatClampNeg = 4 + n := nI_clamp (by omega)
  have l2 : (nI (44 + n)).toNatClampNeg = 44 + n := nI_clamp (by omega)
  have l3 : (nI (84 + n)).toNatClampNeg = 84 + n := nI_clamp (by omega)
  unfold fn12_grow_b60 fn12_grow_b81 fn12_grow_b104 fn12_grow_b132 fn12_grow_b170
  simp (disch := omega) only [nk_k, qK_wI, qL_wI, qR_wI, sk110 s, sr110_48 s, sk140 s, sl140 s, eq_self, decide_true, nk_ck, z_1, if_false, e1, e2, e3, i1, i2, i3, j0, j1, j2, k0, k1, k2, l1, l2, l3, rI_ix, c.1, c.2.1, c.2.2.1, nI_1]
theorem ok_grow {N : Nat} (hN : 100000 ≤ N) : OK_grow N Inv := by
  intro M x y hy ⟨told, m, D, h⟩
  have h' := inv_thr h 0
  have hm := i_m h
  have s := i_shp h
  have mi := modI_thr (modI_inv h) 0
  have refu : fn11_usable M 1 x = some (0, M) → fn12_canMake (am_wI M 110 0 0) 110 x = some (0, am_wI M 110 0 0) → ∃ (v : Int32) (M1 M2 : am_Mem), fn11_grow N M 1 x y = some (v, M1) ∧ am_K M1 110 = 12 ∧ fn12_grow N M1 110 x y = some (v, M2) ∧ Inv M2 := by
    intro a b
    refine ⟨-1, M, am_wI M 110 0 0, ?_, sk110 s, ?_, told, m, D, h'⟩
    · unfold fn11_grow fn11_grow_b0 fn11_grow_b21
      rw [nk_k, sk1 s, nk_dd, a, nk_bd, if_pos rfl]
    · unfold fn12_grow fn12_grow_b0 fn12_grow_b46
      rw [nk_k, sk110 s, nk_dd, b, nk_bd, if_pos rfl]
  rcases pk_ix2 x (n := m) (by omega) with hx | ⟨i, hi, rfl⟩
  · exact refu (cu_no h hx) (mw_can_no mi hx)
  by_cases hf : (D i).1 = 1 ∨ m = 12
  · exact refu (cu_no2 h hi hf) (mw_can_no2 mi hi hf)
  have f0 : (D i).1 = 0 := by
    rcases good_01 (i_good h hi) with e | e
    · exact e
    · exact absurd (Or.inl e) hf
  have hm12 : m < 12 := by
    have : ¬ m = 12 := fun e => hf (Or.inr e)
    omega
  have t := i_til h hi
  have hu := cu_yes h hi f0 hm12
  have hc := mw_can mi hi f0 hm12
  have hl := i_len h hi
  have geo : Geo (D i).2.1.toInt (D i).2.2.1.toInt (D i).2.2.2 := by
    rcases i_good h hi with g | g
    · rw [f0] at g; exact absurd g.1 (by decide)
    · exact g.2
  have hp := geo_pos geo
  by_cases h40 : (D i).2.2.2.length = 40
  · refine ⟨-1, M, am_wI M 110 0 0, ?_, sk110 s, ?_, told, m, D, h'⟩
    · unfold fn11_grow fn11_grow_b0 fn11_grow_b21
      rw [nk_k, sk1 s, nk_dd, hu, nk_bd, if_neg (tilr_ne t), k_til t, nk_ck, t.2.1.2.1, h40]
      rfl
    · unfold fn12_grow fn12_grow_b0 fn12_grow_b46
      rw [nk_k, sk110 s, nk_dd, hc, nk_bd, if_neg z_1, nk_k, sk110 mi.1, nk_dd, mw_n mi hi, nk_bd, h40]
      rfl
  have hl' : (D i).2.2.2.length < 40 := by omega
  have c40 : nI (D i).2.2.2.length + 1 ≤ 40 := by rw [nI_1]; exact nI_le (b := 40) (by omega) (by decide)
  have d40 : ¬ nI (D i).2.2.2.length = 40 := fun e => h40 ((nI_eq (b := 40) (by omega) (by decide)).mp e)
  have c1 : fn11_grow N M 1 (nI i) y = fn11_grow_b36 N 1 y (am_R M 105 i) ((D i).2.1.toInt64 + (D i).2.2.1.toInt64) M := by
    unfold fn11_grow fn11_grow_b0
    rw [nk_k, sk1 s, nk_dd, hu, nk_bd, if_neg (tilr_ne t), k_til t, nk_ck, t.2.1.2.1, if_pos c40, t.2.1.2.2.1, t.2.1.2.2.2]
  have w64 : (D i).2.1.toInt64.toInt = (D i).2.1.toInt := Int32.toInt_toInt64 _
  have h64 : (D i).2.2.1.toInt64.toInt = (D i).2.2.1.toInt := Int32.toInt_toInt64 _
  have bT : (1000000000 : Int64).toInt = 1000000000 := rfl
  by_cases big : 1000000000 < (D i).2.1.toInt64 + (D i).2.2.1.toInt64
  · refine ⟨-1, M, am_wI M 110 0 0, ?_, sk110 s, ?_, told, m, D, h'⟩
    · rw [c1]
      rcases hy with rfl | rfl
      · unfold fn11_grow_b36 fn11_grow_b50 fn11_grow_b66 fn11_grow_b68
        rw [if_pos rfl, if_pos rfl, k_til t, nk_ck, tl_eq, nk_bd, if_pos (Or.inl big), if_neg z_1]
      · unfold fn11_grow_b36 fn11_grow_b50 fn11_grow_b66 fn11_grow_b68
        rw [if_neg z_1, k_til t, nk_ck, if_neg z_1, tl_eq, nk_bd, if_pos (Or.inr big), if_neg z_1]
    · unfold fn12_grow fn12_grow_b0 fn12_grow_b46
      rw [nk_k, sk110 s, nk_dd, hc, nk_bd, if_neg z_1, nk_k, sk110 mi.1, nk_dd, mw_n mi hi, nk_bd, if_neg d40, nk_k, sk110 mi.1, nk_dd, mw_w mi hi, nk_bd, nk_k, sk110 mi.1, nk_dd, mw_h mi hi, nk_bd, if_neg (by rw [lg_cmp_le]; exact Int64.not_le.mpr big)]
  have bs : (D i).2.1.toInt + (D i).2.2.1.toInt ≤ 1000000000 := by
    have := Int64.not_lt.mp big
    rw [Int64.le_iff_toInt_le, i64_addT] at this
    exact this
  have nw : ¬ 1000000000 < (D i).2.1.toInt64 := by rw [Int64.lt_iff_toInt_lt, w64, bT]; omega
  have nh : ¬ 1000000000 < (D i).2.2.1.toInt64 := by rw [Int64.lt_iff_toInt_lt, h64, bT]; omega
  -- the draft with one square more
  have cls : ∀ (w' h' : Int32) (q : Sq), ∃ Ma Ma2, fn0_begin M 89 w' h' = some ((), Ma) ∧ fn0_addTimes N Ma 89 (am_R M 105 i) 1 0 0 = some ((), Ma2) ∧ Shp Ma ∧ Shp Ma2 ∧ TilR Ma2 (am_R M 105 i) (D i) ∧ ∃ Ma3, fn0_add Ma2 89 q.1 q.2.1 q.2.2 = some ((), Ma3) ∧ Shp Ma3 ∧ Fs (dW 89) M Ma3 ∧ DrC Ma3 89 ((D i).2.2.2.length + 1) w' h' (growF (D i).2.2.2 q) := by
    intro w' h' q
    obtain ⟨Ma, ea, fa, ca⟩ := dr_begin (drt_89 s) w' h' (growF (D i).2.2.2 q)
    have sa := fs_shp fa s
    have ta := tilr_dyn (fs_dyn fa (dW_le (by decide))) t
    obtain ⟨Ma2, ea2, fa2, ca2⟩ := dr_timesAll hN (d := 89) (n0 := 0) (by decide) 1 0 0 (by omega) (fun k hk => by
      rw [Int32.zero_add, Int32.zero_add, Nat.zero_add, Int32.mul_one, Int32.mul_one, Int32.mul_one]
      exact if_pos hk) ta (drt_89 sa) ca
    rw [Nat.zero_add] at ca2
    have sa2 := fs_shp fa2 sa
    obtain ⟨Ma3, ea3, fa3, ca3⟩ := dr_add (x := q.1) (y := q.2.1) (s := q.2.2) (drt_89 sa2) ca2 hl' (if_neg (Nat.lt_irrefl _))
    exact ⟨Ma, Ma2, ea, ea2, sa, sa2, tilr_dyn (fs_dyn fa2 (dW_le (by decide))) ta, Ma3, ea3, fs_shp fa3 sa2, fs_trans (fs_trans fa fa2) fa3, ca3⟩
  rcases hy with rfl | rfl
  · obtain ⟨Ma, Ma2, ea, ea2, sa, sa2, ta2, Ma3, ea3, sa3, fa3, ca3⟩ := cls ((D i).2.1 + (D i).2.2.1) (D i).2.2.1 ((D i).2.1, 0, (D i).2.2.1)
    obtain ⟨Mb, u, hub, eb, pb, kb, mb⟩ := act_c hN h hm12 fa3 ca3 (by omega)
    have mb' := modI_thr mb 0
    obtain ⟨Mt, et, ft, rt⟩ := tk_ok hN mb' hi f0
    have st := fs_shp ft mb'.1
    have rt' : RoC Mt (D i).2.2.2.length (D i).2.1 (D i).2.2.1 (growF (D i).2.2.2 ((D i).2.1, 0, (D i).2.2.1)) := roc_ext rt (fun k hk => (if_pos hk).symm)
    have rg := gw_row rt' hl' (b := 0) (a := 1) (w' := (D i).2.1 + (D i).2.2.1) (h' := (D i).2.2.1) (v := (D i).2.1 + (D i).2.2.1) (if_neg (Nat.lt_irrefl _)) (Or.inl ⟨rfl, rfl, rfl⟩)
    obtain ⟨Md, ed, vd⟩ := act_m hN h hm12 hub pb (fs_trans (fs_trans (fs_wI Mb 0 0 (by decide)) (fs_mono ft (by decide))) (fs_mono gw_fs (by decide))) (fun j hj => by rw [fs_I gw_fs (by decide), fs_I ft (by decide), rI_ix _ _ _ hj]) rg (by omega) (good_made (by rw [growF_of]; exact geo_right geo (by omega) bs))
    refine ⟨nI m, Mb, Md, ?_, kb, ?_, vd⟩
    · rw [c1]
      unfold fn11_grow_b36 fn11_grow_b50 fn11_grow_b66 fn11_grow_b68 fn11_grow_b143
      rw [if_pos rfl, if_pos rfl, k_til t, nk_ck, tl_eq, nk_bd, t.2.1.2.2.2, if_neg (show ¬ (1000000000 < (D i).2.1.toInt64 + (D i).2.2.1.toInt64 ∨ 1000000000 < (D i).2.2.1.toInt64) from fun e => e.elim big nh), if_pos rfl, nk_k, sk1 s, nk_dd, sr1_4 s, nk_k, sk89 s, nk_dd, i64_add32, Int32.toInt32_toInt64, ea, nk_bd, nk_k, sk1 sa, nk_dd, sr1_4 sa, nk_k, sk89 sa, nk_dd, ea2, nk_bd, if_pos rfl, nk_k, sk1 sa2, nk_dd, k_til ta2, nk_ck, sr1_4 sa2, nk_k, sk89 sa2, nk_dd, ta2.2.1.2.2.1, ta2.2.1.2.2.2, ea3, nk_bd, nk_k, sk1 sa3, nk_dd, eb, nk_bd]
    · unfold fn12_grow fn12_grow_b0
      rw [nk_k, kb, nk_dd, mw_can mb' hi f0 hm12, nk_bd, if_neg z_1, nk_k, sk110 mb'.1, nk_dd, mw_n mb' hi, nk_bd, if_neg d40, nk_k, sk110 mb'.1, nk_dd, mw_w mb' hi, nk_bd, nk_k, sk110 mb'.1, nk_dd, mw_h mb' hi, nk_bd, if_pos (by rw [lg_cmp_le]; exact Int64.not_lt.mp big), nk_k, sk110 mb'.1, nk_dd, et, nk_bd, nk_k, sk110 st, nk_dd, sr110_48 st, nk_k, sk140 st, nk_dd, sl140 st, show am_in (0 : Int32) 124 = true from rfl, nk_ck, show (0 : Int32).toNatClampNeg = 0 from rfl, rt.1, gw_m0 st rt hl', ed, nk_bd]
  · obtain ⟨Ma, Ma2, ea, ea2, sa, sa2, ta2, Ma3, ea3, sa3, fa3, ca3⟩ := cls (D i).2.1 ((D i).2.1 + (D i).2.2.1) (0, (D i).2.2.1, (D i).2.1)
    obtain ⟨Mb, u, hub, eb, pb, kb, mb⟩ := act_c hN h hm12 fa3 ca3 (by omega)
    have mb' := modI_thr mb 0
    obtain ⟨Mt, et, ft, rt⟩ := tk_ok hN mb' hi f0
    have st := fs_shp ft mb'.1
    have rt' : RoC Mt (D i).2.2.2.length (D i).2.1 (D i).2.2.1 (growF (D i).2.2.2 (0, (D i).2.2.1, (D i).2.1)) := roc_ext rt (fun k hk => (if_pos hk).symm)
    have rg := gw_row rt' hl' (b := 0) (a := 2) (w' := (D i).2.1) (h' := (D i).2.1 + (D i).2.2.1) (v := (D i).2.2.1 + (D i).2.1) (if_neg (Nat.lt_irrefl _)) (Or.inr ⟨rfl, Int32.add_comm _ _, rfl⟩)
    obtain ⟨Md, ed, vd⟩ := act_m hN h hm12 hub pb (fs_trans (fs_trans (fs_wI Mb 0 0 (by decide)) (fs_mono ft (by decide))) (fs_mono gw_fs (by decide))) (fun j hj => by rw [fs_I gw_fs (by decide), fs_I ft (by decide), rI_ix _ _ _ hj]) rg (by omega) (good_made (by rw [growF_of]; exact geo_below geo (by omega) bs))
    refine ⟨nI m, Mb, Md, ?_, kb, ?_, vd⟩
    · rw [c1]
      unfold fn11_grow_b36 fn11_grow_b50 fn11_grow_b66 fn11_grow_b68 fn11_grow_b143
      rw [if_neg z_1, k_til t, nk_ck, if_neg z_1, tl_eq, nk_bd, t.2.1.2.2.1, if_neg (show ¬ (1000000000 < (D i).2.1.toInt64 ∨ 1000000000 < (D i).2.1.toInt64 + (D i).2.2.1.toInt64) from fun e => e.elim nw big), if_pos rfl, nk_k, sk1 s, nk_dd, sr1_4 s, nk_k, sk89 s, nk_dd, i64_add32, Int32.toInt32_toInt64, ea, nk_bd, nk_k, sk1 sa, nk_dd, sr1_4 sa, nk_k, sk89 sa, nk_dd, ea2, nk_bd, if_neg z_1, nk_k, sk1 sa2, nk_dd, k_til ta2, nk_ck, sr1_4 sa2, nk_k, sk89 sa2, nk_dd, ta2.2.1.2.2.1, ta2.2.1.2.2.2, ea3, nk_bd, nk_k, sk1 sa3, nk_dd, eb, nk_bd]
    · unfold fn12_grow fn12_grow_b0
      rw [nk_k, kb, nk_dd, mw_can mb' hi f0 hm12, nk_bd, if_neg z_1, nk_k, sk110 mb'.1, nk_dd, mw_n mb' hi, nk_bd, if_neg d40, nk_k, sk110 mb'.1, nk_dd, mw_w mb' hi, nk_bd, nk_k, sk110 mb'.1, nk_dd, mw_h mb' hi, nk_bd, if_pos (by rw [lg_cmp_le]; exact Int64.not_lt.mp big), nk_k, sk110 mb'.1, nk_dd, et, nk_bd, nk_k, sk110 st, nk_dd, sr110_48 st, nk_k, sk140 st, nk_dd, sl140 st, show am_in (0 : Int32) 124 = true from rfl, nk_ck, show (0 : Int32).toNatClampNeg = 0 from rfl, rt.1, gw_m1 st rt hl', ed, nk_bd]
