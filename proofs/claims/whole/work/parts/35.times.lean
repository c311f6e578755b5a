theorem i32_mul {a b : Int32} (h0 : 0 ≤ a.toInt * b.toInt) (h1 : a.toInt * b.toInt < 2147483648) : (a * b).toInt = a.toInt * b.toInt := by
  rw [Int32.toInt_mul]
  revert h0 h1
  generalize a.toInt * b.toInt = p
  intro h0 h1
  rw [Int.bmod_def]
  omega
theorem i32_add {a b : Int32} (h0 : -2147483648 ≤ a.toInt + b.toInt) (h1 : a.toInt + b.toInt < 2147483648) : (a + b).toInt = a.toInt + b.toInt := by
  rw [Int32.toInt_add, Int.bmod_def]
  omega
theorem i32_sub {a b : Int32} (h0 : -2147483648 ≤ a.toInt - b.toInt) (h1 : a.toInt - b.toInt < 2147483648) : (a - b).toInt = a.toInt - b.toInt := by
  rw [Int32.toInt_sub, Int.bmod_def]
  omega
theorem i64_mul32 (a b : Int32) : (a.toInt64 * b.toInt64).toInt32 = a * b := by
  rw [Int64.toInt32_mul, Int32.toInt32_toInt64, Int32.toInt32_toInt64]
theorem i64_mulT (a b : Int32) : (a.toInt64 * b.toInt64).toInt = a.toInt * b.toInt := by
  rw [Int64.toInt_mul, Int32.toInt_toInt64, Int32.toInt_toInt64]
  have h1 := Int32.toInt_lt a
  have h2 := Int32.toInt_lt b
  have h3 := Int32.le_toInt a
  have h4 := Int32.le_toInt b
  have h5 : (a.toInt * b.toInt).natAbs ≤ 2147483648 * 2147483648 := by
    rw [Int.natAbs_mul]
    exact Nat.mul_le_mul (by omega) (by omega)
  revert h5
  generalize a.toInt * b.toInt = p
  intro h5
  rw [Int.bmod_def]
  omega
theorem roc_ext {M : am_Mem} {n : Nat} {w h : Int32} {f g : Nat → Sq} (c : RoC M n w h f) (e : ∀ k, k < n → f k = g k) : RoC M n w h g :=
  ⟨c.1, c.2.1, c.2.2.1, c.2.2.2.1, fun k hk => by rw [← e k hk]; exact c.2.2.2.2 k hk⟩
theorem ofF_map (T : Sq → Sq) (f : Nat → Sq) (n : Nat) : ofF (fun k => T (f k)) n = (ofF f n).map T := by
  unfold ofF
  rw [List.map_map]
  rfl
theorem sqF_map (T : Sq → Sq) (L : List Sq) : ofF (fun k => T (sqF L k)) L.length = L.map T := by
  rw [ofF_map, sqF_of]
theorem inv_140 {M M' : am_Mem} {told m : Nat} {D : Nat → Rc} (h : InvAt M told m D) (f : Fs [140] M M') : InvAt M' told m D :=
  inv_scr h (fs_fr f) (by decide +kernel) (by rw [fs_I f (by decide)]) (by rw [fs_I f (by decide)]) (by rw [fs_I f (by decide)]) (by rw [fs_I f (by decide)]) (by rw [fs_I f (by decide)]) (by rw [fs_I f (by decide)])
theorem tl_eq (M : am_Mem) (a b : Int64) : fn11_isTooLarge M a b = some (if 1000000000 < a ∨ 1000000000 < b then 1 else 0, M) := by
  unfold fn11_isTooLarge fn11_isTooLarge_b0 fn11_isTooLarge_b16 fn11_isTooLarge_b21
  simp only [lg_cmp_gt, lg_cmp_le]
  by_cases h1 : 1000000000 < a
  · rw [if_pos h1, if_pos (Or.inl h1)]; rfl
  · rw [if_neg h1]
    by_cases h2 : b ≤ 1000000000
    · rw [if_pos h2, if_neg (fun h => h.elim h1 (Int64.not_lt.mpr h2))]; rfl
    · rw [if_neg h2, if_pos (Or.inr (Int64.not_le.mp h2))]; rfl
section
variable {M : am_Mem} {told m : Nat} {D : Nat → Rc}
/-- the class has its draft: it puts it; the reference has its row: it makes it -/
theorem act_c {N : Nat} (hN : 100000 ≤ N) (h : InvAt M told m D) (hm : m < 12) {Ma : am_Mem} {n : Nat} {w y : Int32} {f : Nat → Sq} (fa : Fs (dW 89) M Ma) (c : DrC Ma 89 n w y f) (hn : n ≤ 40) :
    ∃ Mb u, (told + u ≤ m ∧ am_I Mb 110 19 = nI u) ∧ fn11_putMade N Ma 1 = some (nI m, Mb) ∧ PutQ M Mb m u (0, w, y, ofF (sor n f) n) ∧ am_K Mb 110 = 12 ∧ ModI Mb m D := by
  obtain ⟨u, u1, u2, u3⟩ := h.2.2.2.2.1
  have s := i_shp h
  have hs := s.1
  obtain ⟨Mb, e, p⟩ := put_ok hN (fs_shp fa s) c hn hm (u := u) (by rw [fs_I fa (by decide)]; exact i_104 h) (by rw [fs_I fa (by decide)]; exact u2)
  have p' := putq_fs fa p
  have mi := modI_put h p'
  exact ⟨Mb, u, ⟨u1, by rw [((p'.1.2 110 (by omega)).2.2.2 (by decide)).1]; exact u3⟩, e, p', sk110 mi.1, mi⟩
theorem act_m {N : Nat} (hN : 100000 ≤ N) (h : InvAt M told m D) (hm : m < 12) {Mb Mc : am_Mem} {n u : Nat} {w y : Int32} {f : Nat → Sq} (hu : told + u ≤ m ∧ am_I Mb 110 19 = nI u) (p : PutQ M Mb m u (0, w, y, ofF (sor n f) n)) (fc : Fs [110, 140] Mb Mc) (f0 : ∀ i, ¬ i = 0 → am_I Mc 110 i = am_I Mb 110 i) (c : RoC Mc n w y f) (hn : n ≤ 40) (g : Good (0, w, y, ofF (sor n f) n)) :
    ∃ Md, fn12_makes N Mc 110 = some (nI m, Md) ∧ Inv Md := by
  have mi := modI_put h p
  have h1 := hu.1
  obtain ⟨Md, e, k⟩ := mk_ok hN (fs_shp fc mi.1) c hn hm (u := u) (by omega) (by rw [f0 18 (by decide)]; exact mi.2.2.1) (by rw [f0 19 (by decide)]; exact hu.2)
  refine ⟨Md, e, told, m + 1, _, act_inv h hm h1 p ?_ g⟩
  obtain ⟨k1, k2, k3, k4, k5, k6⟩ := k
  exact ⟨fs_trans (fs_mono fc (by decide)) k1, fun i h1 h2 h3 => by rw [k2 i h1 h2 h3, f0 i h1], k3, k4, fun i hi => by rw [k5 i hi, fs_I fc (by decide)], k6⟩
end
theorem geo_pos {w h : Int} {L : List Sq} (g : Geo w h L) : 1 ≤ w ∧ 1 ≤ h := by
  obtain ⟨g1, g2, g3, g4, g5, _⟩ := g
  match L, g1 with
  | q :: l, _ =>
    have := g5 q List.mem_cons_self
    unfold sqIn at this
    omega
theorem geo_scale {w h x : Int32} {L : List Sq} (g : Geo w.toInt h.toInt L) (hx : 1 ≤ x.toInt) (hw : w.toInt * x.toInt ≤ 1000000000) (hh : h.toInt * x.toInt ≤ 1000000000) : Geo (w * x).toInt (h * x).toInt (L.map (fun q => (q.1 * x, q.2.1 * x, q.2.2 * x))) := by
  have hp := geo_pos g
  have g0 := g
  rw [geo_Z] at g ⊢
  obtain ⟨g1, g2, g3, g4, g5⟩ := g
  have x0 : (0 : Int) ≤ x.toInt := by omega
  have ew : (w * x).toInt = w.toInt * x.toInt := i32_mul (Int.mul_nonneg (by omega) x0) (by omega)
  have eh : (h * x).toInt = h.toInt * x.toInt := i32_mul (Int.mul_nonneg (by omega) x0) (by omega)
  rw [ew, eh]
  refine ⟨by rw [List.length_map]; exact g1, by rw [List.length_map]; exact g2, hw, hh, ?_⟩
  have e : (L.map (fun q => (q.1 * x, q.2.1 * x, q.2.2 * x))).map toZ = (L.map toZ).map (fun q => (q.1 * x.toInt, q.2.1 * x.toInt, q.2.2 * x.toInt)) := by
    rw [List.map_map, List.map_map]
    refine List.map_congr_left (fun q hq => ?_)
    obtain ⟨a1, a2, a3, a4, a5⟩ := g0.2.2.2.2.1 q hq
    have b1 : q.1.toInt * x.toInt ≤ w.toInt * x.toInt := Int.mul_le_mul_of_nonneg_right (by omega) x0
    have b2 : q.2.1.toInt * x.toInt ≤ h.toInt * x.toInt := Int.mul_le_mul_of_nonneg_right (by omega) x0
    have b3 : q.2.2.toInt * x.toInt ≤ w.toInt * x.toInt := Int.mul_le_mul_of_nonneg_right (by omega) x0
    show ((q.1 * x).toInt, (q.2.1 * x).toInt, (q.2.2 * x).toInt) = (q.1.toInt * x.toInt, q.2.1.toInt * x.toInt, q.2.2.toInt * x.toInt)
    rw [i32_mul (Int.mul_nonneg a1 x0) (by omega), i32_mul (Int.mul_nonneg a2 x0) (by omega), i32_mul (Int.mul_nonneg (by omega) x0) (by omega)]
  rw [e]
  exact geoZ_scale hx g5
theorem good_made {n : Nat} {w h : Int32} {f : Nat → Sq} (g : Geo w.toInt h.toInt (ofF f n)) : Good (0, w, h, ofF (sor n f) n) := Or.inr ⟨rfl, geo_perm (sor_perm n f) g⟩
theorem ok_times {N : Nat} (hN : 100000 ≤ N) : OK_times N Inv := by
  intro M x y ⟨told, m, D, h⟩
  have h' := inv_thr h 0
  have hm := i_m h
  have s := i_shp h
  have mi := modI_thr (modI_inv h) 0
  have y1 : (1 : Int32).toInt = 1 := rfl
  have y9 : (9999 : Int32).toInt = 9999 := rfl
  have wi : ∀ M', fn12_within M' y.toInt64 1 9999 = some (if 1 ≤ y ∧ y ≤ 9999 then 1 else 0, M') := fun M' => wi_lit M' y 1 9999
  -- the calls that are refused alike
  have refu : fn11_usable M 1 x = some (0, M) → fn12_canMake (am_wI M 110 0 0) 110 x = some (0, am_wI M 110 0 0) → ∃ (v : Int32) (M1 M2 : am_Mem), fn11_times N M 1 x y = some (v, M1) ∧ am_K M1 110 = 12 ∧ fn12_times N M1 110 x y = some (v, M2) ∧ Inv M2 := by
    intro a b
    refine ⟨-1, M, am_wI M 110 0 0, ?_, sk110 s, ?_, told, m, D, h'⟩
    · unfold fn11_times fn11_times_b0 fn11_times_b22
      rw [nk_k, sk1 s, nk_dd, a, nk_bd, if_pos rfl]
    · unfold fn12_times fn12_times_b0 fn12_times_b25
      rw [nk_k, sk110 s, nk_dd, b, nk_bd, if_pos rfl]
  rcases pk_ix2 x (n := m) (by omega) with hx | ⟨i, hi, rfl⟩
  · exact refu (cu_no h hx) (mw_can_no mi hx)
  by_cases hf : (D i).1 = 1 ∨ m = 12
  · exact refu (cu_no2 h hi hf) (mw_can_no2 mi hi hf)
  have f0 : (D i).1 = 0 := by
    rcases good_01 (i_good h hi) with e | e
    · exact e
    · exact absurd (Or.inl e) hf
  have hm12 : m < 12 := by
    have : ¬ m = 12 := fun e => hf (Or.inr e)
    omega
  have t := i_til h hi
  have hu := cu_yes h hi f0 hm12
  have hc := mw_can mi hi f0 hm12
  by_cases hy : ¬ (1 ≤ y ∧ y ≤ 9999)
  · refine ⟨-1, M, am_wI M 110 0 0, ?_, sk110 s, ?_, told, m, D, h'⟩
    · unfold fn11_times fn11_times_b0 fn11_times_b22
      rw [nk_k, sk1 s, nk_dd, hu, nk_bd, if_neg (tilr_ne t)]
      by_cases h1 : y < 1
      · rw [if_pos h1]
      · rw [if_neg h1, if_neg (fun h2 => hy ⟨Int32.not_lt.mp h1, h2⟩)]
    · unfold fn12_times fn12_times_b0 fn12_times_b25
      rw [nk_k, sk110 s, nk_dd, hc, nk_bd, if_neg z_1, wi, nk_bd, if_neg hy, if_pos rfl]
  have hy := Decidable.not_not.mp hy
  have geo : Geo (D i).2.1.toInt (D i).2.2.1.toInt (D i).2.2.2 := by
    rcases i_good h hi with g | g
    · rw [f0] at g; exact absurd g.1 (by decide)
    · exact g.2
  have hl := i_len h hi
  have hy1 : 1 ≤ y.toInt := by have := Int32.le_iff_toInt_le.mp hy.1; omega
  have c0 : fn11_times N M 1 (nI i) y = fn11_times_b44 N 1 y (am_R M 105 i) ((D i).2.1.toInt64 * y.toInt64) ((D i).2.2.1.toInt64 * y.toInt64) M := by
    unfold fn11_times fn11_times_b0 fn11_times_b34
    rw [nk_k, sk1 s, nk_dd, hu, nk_bd, if_neg (tilr_ne t), if_neg (Int32.not_lt.mpr hy.1), if_pos hy.2, k_til t, nk_ck, nk_ck, t.2.1.2.2.1, t.2.1.2.2.2]
  by_cases big : 1000000000 < (D i).2.1.toInt64 * y.toInt64 ∨ 1000000000 < (D i).2.2.1.toInt64 * y.toInt64
  · obtain ⟨Mt, e, ft, rt⟩ := tk_ok hN mi hi f0
    have ht := inv_140 h' ft
    have st := i_shp ht
    refine ⟨-1, M, Mt, ?_, sk110 s, ?_, told, m, D, ht⟩
    · rw [c0]
      unfold fn11_times_b44
      rw [tl_eq, nk_bd, if_pos big, if_neg z_1]
    · unfold fn12_times fn12_times_b0 fn12_times_b25 fn12_mayGrow fn12_mayGrow_b0 fn12_mayGrow_b36 fn12_mayGrow_b37
      rw [nk_k, sk110 s, nk_dd, hc, nk_bd, if_neg z_1, wi, nk_bd, if_pos hy, if_neg z_1, nk_k, sk110 mi.1, nk_dd, e, nk_bd, nk_k, sk110 st, nk_dd, nk_dd, sr110_48 st, nk_k, sk140 st, nk_dd, sl140 st, show am_in (1 : Int32) 124 = true from rfl, nk_ck, show (1 : Int32).toNatClampNeg = 1 from rfl, show (2 : Int32).toNatClampNeg = 2 from rfl, rt.2.1, rt.2.2.1]
      simp only [lg_cmp_gt]
      by_cases b1 : 1000000000 < (D i).2.1.toInt64 * y.toInt64
      · rw [if_pos b1]; rfl
      · rw [if_neg b1, if_pos (big.resolve_left b1)]; rfl
  · have nw : ¬ 1000000000 < (D i).2.1.toInt64 * y.toInt64 := fun e => big (Or.inl e)
    have nh : ¬ 1000000000 < (D i).2.2.1.toInt64 * y.toInt64 := fun e => big (Or.inr e)
    have bw : (D i).2.1.toInt * y.toInt ≤ 1000000000 := by
      have := Int64.not_lt.mp nw
      rw [Int64.le_iff_toInt_le, i64_mulT] at this
      exact this
    have bh : (D i).2.2.1.toInt * y.toInt ≤ 1000000000 := by
      have := Int64.not_lt.mp nh
      rw [Int64.le_iff_toInt_le, i64_mulT] at this
      exact this
    obtain ⟨Ma, ea, fa, ca⟩ := dr_begin (drt_89 s) ((D i).2.1 * y) ((D i).2.2.1 * y) (fun k => ((sqF (D i).2.2.2 k).1 * y, (sqF (D i).2.2.2 k).2.1 * y, (sqF (D i).2.2.2 k).2.2 * y))
    have sa := fs_shp fa s
    obtain ⟨Ma2, ea2, fa2, ca2⟩ := dr_timesAll hN (d := 89) (n0 := 0) (by decide) y 0 0 (by omega) (fun k hk => by rw [Int32.zero_add, Int32.zero_add, Nat.zero_add]; rfl) (tilr_dyn (fs_dyn fa (dW_le (by decide))) t) (drt_89 sa) ca
    rw [Nat.zero_add] at ca2
    have sa2 := fs_shp fa2 sa
    obtain ⟨Mb, u, hub, eb, pb, kb, mb⟩ := act_c hN h hm12 (fs_trans fa fa2) ca2 hl
    have mb' := modI_thr mb 0
    obtain ⟨Mt, et, ft, rt⟩ := tk_ok hN mb' hi f0
    have st := fs_shp ft mb'.1
    obtain ⟨Mg, eg, fg, rg⟩ := grw_ok hN y st rt hl
    have sg := fs_shp fg st
    obtain ⟨Md, ed, vd⟩ := act_m hN h hm12 hub pb (fs_trans (fs_trans (fs_wI Mb 0 0 (by decide)) (fs_mono ft (by decide))) (fs_mono fg (by decide))) (fun j hj => by rw [fs_I fg (by decide), fs_I ft (by decide), rI_ix _ _ _ hj]) rg hl (good_made (by rw [sqF_map (fun q => (q.1 * y, q.2.1 * y, q.2.2 * y))]; exact geo_scale geo hy1 bw bh))
    refine ⟨nI m, Mb, Md, ?_, kb, ?_, vd⟩
    · rw [c0]
      unfold fn11_times_b44
      rw [tl_eq, nk_bd, if_neg big, if_pos rfl, nk_k, sk1 s, nk_dd, sr1_4 s, nk_k, sk89 s, nk_dd, i64_mul32, i64_mul32, ea, nk_bd, nk_k, sk1 sa, nk_dd, sr1_4 sa, nk_k, sk89 sa, nk_dd, ea2, nk_bd, nk_k, sk1 sa2, nk_dd, eb, nk_bd]
    · unfold fn12_times fn12_times_b0 fn12_times_b25 fn12_mayGrow fn12_mayGrow_b0 fn12_mayGrow_b36 fn12_mayGrow_b37
      rw [nk_k, kb, nk_dd, mw_can mb' hi f0 hm12, nk_bd, if_neg z_1, wi, nk_bd, if_pos hy, if_neg z_1, nk_k, sk110 mb'.1, nk_dd, et, nk_bd, nk_k, sk110 st, nk_dd, nk_dd, sr110_48 st, nk_k, sk140 st, nk_dd, sl140 st, show am_in (1 : Int32) 124 = true from rfl, nk_ck, show (1 : Int32).toNatClampNeg = 1 from rfl, show (2 : Int32).toNatClampNeg = 2 from rfl, rt.2.1, rt.2.2.1, show am_in (2 : Int32) 124 = true from rfl]
      simp only [lg_cmp_gt]
      rw [if_neg nw, nk_ck, if_neg nh, nk_11, nk_ck, nk_bd, if_neg z_1, nk_k, sk110 st, nk_dd, eg, nk_bd, nk_k, sk110 sg, nk_dd, ed, nk_bd]
