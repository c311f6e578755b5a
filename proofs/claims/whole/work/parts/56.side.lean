theorem ok_side {N : Nat} (hN : 100000 ≤ N) : OK_side N Inv := by
  intro M x y z hz ⟨told, m, D, h⟩
  have h' := inv_thr h 0
  have hm := i_m h
  have s := i_shp h
  rcases pk_ix2 x (n := m) (by omega) with hx | ⟨i, hi, rfl⟩
  · refine ⟨-1, M, am_wI M 110 0 0, ?_, sk110 s, ?_, told, m, D, h'⟩
    · unfold fn11_side fn11_side_b0 fn11_side_b28
      rw [cf_no h hx]
      rfl
    · unfold fn12_side fn12_side_b0
      rw [k_110 h, nk_ck, ms_no h' hx, nk_bd, if_pos rfl]
  have t := i_til h hi
  have hl := i_len h hi
  rcases pk_ix2 y (n := (D i).2.2.2.length) (by omega) with hy | ⟨k, hk, rfl⟩
  · refine ⟨-1, M, am_wI M 110 0 0, ?_, sk110 s, ?_, told, m, D, h'⟩
    · unfold fn11_side fn11_side_b0 fn11_side_b28
      rw [cf_yes h hi, if_neg (tilr_ne t)]
      by_cases y0 : y < 0
      · rw [if_pos y0]
      · rw [if_neg y0, k_til t, nk_ck, t.2.1.2.1, if_neg (Int32.not_lt.mpr (hy.resolve_left y0))]
    · unfold fn12_side fn12_side_b0
      rw [k_110 h, nk_ck, ms_no2 h' hi hy, nk_bd, if_pos rfl]
  have geo : Geo (D i).2.1.toInt (D i).2.2.1.toInt (D i).2.2.2 := by
    rcases good_f (i_good h hi) with ⟨a, b⟩ | ⟨a, b⟩
    · rw [b] at hk; exact absurd hk (Nat.not_lt_zero k)
    · exact b
  obtain ⟨M1, e1, h1, c1, t1⟩ := bd_ok hN h hi
  have s1 := i_shp h1
  have h1' := inv_thr h1 0
  have ll := lnS_len hl
  obtain ⟨M2, e2, f2, d2, c2⟩ := ll_ok hN hi geo (modI_inv h1')
  have h2 := inv_mW h1' f2 (fun i a _ => d2 i a)
  have mi2 := modI_inv h2
  have same : ∀ v : Int32, (v = qY (D i).2.2.2 k ∨ v = qY (D i).2.2.2 k + qS (D i).2.2.2 k) → fstU (sdC (lnS (D i).2.2.2) v (qX (D i).2.2.2 k)) 0 (lnS (D i).2.2.2).length = fstU (sdM (lnS (D i).2.2.2) v (qX (D i).2.2.2 k) (qX (D i).2.2.2 k + qS (D i).2.2.2 k)) 0 (lnS (D i).2.2.2).length :=
    fun v hv => fstU_ext (fun j _ hj => sd_same geo hk hv (by omega))
  have cc : ∀ v : Int32, fn11_side_b63 N 97 v (nI k) (am_R M 105 i) M1 = some (fstU (sdC (lnS (D i).2.2.2) v (qX (D i).2.2.2 k)) 0 (lnS (D i).2.2.2).length, M1) := by
    intro v
    have sd := sd_c (N := N) s1 c1 ll v (qX (D i).2.2.2 k) (lnS (D i).2.2.2).length 0 N (by omega) (by omega)
    obtain ⟨tK, ⟨tf, t4, t5, t6⟩, ⟨_, _, k7, l7⟩, ⟨_, _, k8, l8⟩, ⟨_, _, k9, l9⟩, x7, x8, x9⟩ := t1
    unfold fn11_side_b63 fn2_rowOf fn2_rowOf_b0
    rw [nk_k, tK.2.2, nk_dd, nk_k, k7, nk_dd, l7, nk_in hk (by omega), nk_ck, nk_k, sk97 s1, nk_dd, nI_clamp (by omega), x7 k hk, show fn2_rowOf_b2 N N 97 v (qX (D i).2.2.2 k) 0 M1 = _ from sd, nk_bd]
  have cm : ∀ v : Int32, fn12_side_b50 N 110 (nI i) (nI k) v M2 = some (fstU (sdM (lnS (D i).2.2.2) v (qX (D i).2.2.2 k) (qX (D i).2.2.2 k + qS (D i).2.2.2 k)) 0 (lnS (D i).2.2.2).length, M2) :=
    fun v => sd_m (N := N) mi2 hi hk c2 ll v (lnS (D i).2.2.2).length 0 N (by omega) (by omega)
  have c0 : fn11_side N M 1 (nI i) (nI k) z = (if z = 0 then fn11_side_b63 N 97 (qY (D i).2.2.2 k) (nI k) (am_R M 105 i) M1 else fn11_side_b63 N 97 (qY (D i).2.2.2 k + qS (D i).2.2.2 k) (nI k) (am_R M 105 i) M1) := by
    have hb := c_bottom t1 hl hk
    obtain ⟨tK, ⟨tf, t4, t5, t6⟩, ⟨_, _, k7, l7⟩, ⟨_, _, k8, l8⟩, ⟨_, _, k9, l9⟩, x7, x8, x9⟩ := t1
    unfold fn11_side fn11_side_b0
    rw [cf_yes h hi, if_neg (tilr_ne t), if_neg (nI_pos (by omega)), k_til t, nk_ck, t.2.1.2.1, if_pos (nI_lt hk (by omega)), nk_k, sk1 s, nk_dd, sr1_6 s, nk_k, sk97 s, nk_dd, e1, nk_bd, nk_k, sk1 s1, nk_dd, sr1_6 s1, nk_k, tK.2.2, nk_dd, nk_k, k8, nk_dd, l8, nk_in hk (by omega), nk_ck, nI_clamp (by omega), x8 k hk, nk_dd, hb, nk_bd]
  have m0 : fn12_side N M1 110 (nI i) (nI k) z = (if z = 0 then fn12_side_b50 N 110 (nI i) (nI k) (qY (D i).2.2.2 k + 0) M2 else fn12_side_b50 N 110 (nI i) (nI k) (qY (D i).2.2.2 k + qS (D i).2.2.2 k) M2) := by
    unfold fn12_side fn12_side_b0 fn12_side_b47
    rw [k_110 h1, nk_ck, ms_yes h1' hi hk, nk_bd, if_neg z_1, k_110w h1, nk_ck, e2, nk_bd, kw_110 mi2, nk_ck, mw_Y mi2 hi hk, nk_bd, kw_110 mi2, nk_ck, mw_S mi2 hi hk, nk_bd]
  rcases hz with rfl | rfl
  · exact ⟨fstU (sdC (lnS (D i).2.2.2) (qY (D i).2.2.2 k) (qX (D i).2.2.2 k)) 0 (lnS (D i).2.2.2).length, M1, M2, by rw [c0, if_pos rfl, cc], sk110 s1, by rw [m0, if_pos rfl, Int32.add_zero, cm, same _ (Or.inl rfl)], told, m, D, h2⟩
  · exact ⟨fstU (sdC (lnS (D i).2.2.2) (qY (D i).2.2.2 k + qS (D i).2.2.2 k) (qX (D i).2.2.2 k)) 0 (lnS (D i).2.2.2).length, M1, M2, by rw [c0, if_neg z_1, cc], sk110 s1, by rw [m0, if_neg z_1, cm, same _ (Or.inr rfl)], told, m, D, h2⟩
