theorem ok_current (N : Nat) : OK_current N Inv := by
  intro M x y ⟨told, m, D, h⟩
  have h' := inv_thr h 0
  have hm := i_m h
  have no : ∀ (P : Prop), P → P := fun _ p => p
  rcases pk_ix2 x (n := m) (by omega) with hx | ⟨i, hi, rfl⟩
  · refine ⟨-2147483648, M, am_wI M 110 0 0, ?_, sk110 (i_shp h), ?_, told, m, D, h'⟩
    · unfold fn11_current fn11_current_b0 fn11_flowingNet fn11_flowingNet_b0
      rw [cf_no h hx, nk_k, sk1 (i_shp h)]
      rfl
    · unfold fn12_current fn12_current_b0
      rw [k_110 h, mv_net_no h' hx]
      rfl
  · have t := i_til h hi
    rcases i_net h' hi with ⟨a, b⟩ | ⟨a, c, b⟩
    · refine ⟨-2147483648, M, am_wI M 110 0 0, ?_, sk110 (i_shp h), ?_, told, m, D, h'⟩
      · unfold fn11_current fn11_current_b0 fn11_flowingNet fn11_flowingNet_b0
        rw [cf_yes h hi, nk_k, sk1 (i_shp h)]
        simp only [tilr_ne t, k_til t, nk_ck, if_false]
        rw [show am_R M (am_R M 105 i) 3 = 0 from b]
        rfl
      · unfold fn12_current fn12_current_b0
        rw [k_110 h, mv_net h' hi, if_neg a]
        rfl
    · obtain ⟨⟨b1, b2, b3⟩, b4, b5, b6, p, w, c1, c2, c3, c4, c5, c6, c7, c8, c9⟩ := b
      rw [rR_wI] at b1 b2 b3 b4 b5 b6 c3 c4 c7 c8 c9
      rw [rI_ne M 0 0 (by omega)] at b6 c3 c4
      rw [rI_ne M 0 0 (by have := c7.1; omega), rI_ne M 0 0 (by have := c8.1; omega)] at c9
      rw [rI_ne M 0 0 (by decide)] at b6 c5 c6
      rw [rJ_wI] at b4 b5 c9
      rw [rK_wI] at b3
      have hu : ¬ am_R M (am_R M 105 i) 3 = 0 := by omega
      by_cases hz : am_J M (am_R M (am_R M 105 i) 3) 4 = 0
      · refine ⟨-2147483648, M, am_wI M 110 0 0, ?_, sk110 (i_shp h), ?_, told, m, D, h'⟩
        · unfold fn11_current fn11_current_b0 fn11_flowingNet fn11_flowingNet_b0
          rw [cf_yes h hi, nk_k, sk1 (i_shp h)]
          simp only [tilr_ne t, k_til t, nk_ck, if_false, hu]
          rw [nk_k, b3, hz]
          rfl
        · unfold fn12_current fn12_current_b0
          rw [k_110 h, mv_net h' hi, if_pos a, nk_ck, nk_bd]
          simp only [z_1, if_false]
          rw [k_110w h, sr110_29 (i_shp h'), nk_k, sk127 (i_shp h'), sl127 (i_shp h'), nk_in (by omega) (by omega), nI_clamp (by omega), rJ_wI, ← b4, hz]
          rfl
      · have hlt : 0 < am_J M (am_R M (am_R M 105 i) 3) 4 := by
          rw [Int64.lt_iff_toInt_lt] at b5 ⊢
          have : ¬ (am_J M (am_R M (am_R M 105 i) 3) 4).toInt = 0 := fun e => hz (Int64.toInt_inj.mp e)
          have e0 : (0 : Int64).toInt = 0 := rfl
          omega
        have hg : ¬ lg_cmp (am_J M (am_R M (am_R M 105 i) 3) 4) 0 = 0 := by rw [lg_cmp_eq]; exact hz
        have hl : ¬ lg_cmp (am_J M (am_R M (am_R M 105 i) 3) 4) 0 ≤ 0 := by rw [lg_cmp_le]; exact Int64.not_le.mpr hlt
        have cl : ∀ (k : Nat → am_Mem → Option (Int32 × am_Mem)), am_ck (am_k M 1 11) (am_bd (fn11_flowingNet M 1 (nI i)) k) = k (am_R M (am_R M 105 i) 3) M := by
          intro k
          unfold fn11_flowingNet fn11_flowingNet_b0
          rw [cf_yes h hi, nk_k, sk1 (i_shp h)]
          simp only [tilr_ne t, k_til t, nk_ck, if_false, hu]
          rw [nk_k, b3]
          simp only [hg, if_false]
          rfl
        have cm : ∀ (k : Int32 → am_Mem → Option (Int32 × am_Mem)), am_bd (fn12_isNet (am_wI M 110 0 0) 110 (nI i)) k = k 1 (am_wI M 110 0 0) := by
          intro k
          rw [mv_net h' hi, if_pos a]
          rfl
        rcases pk_ix2 y (n := w) (by omega) with hy | ⟨e, he, rfl⟩
        · refine ⟨-2147483648, M, am_wI M 110 0 0, ?_, sk110 (i_shp h), ?_, told, m, D, h'⟩
          · unfold fn11_current fn11_current_b0 fn11_current_b22 fn11_current_b33
            rw [cl]
            simp only [hu, if_false]
            by_cases h0 : y < 0
            · rw [if_pos h0]
            · rw [if_neg h0, nk_k, b3, c4, if_neg (Int32.not_lt.mpr (hy.resolve_left h0))]
              rfl
          · unfold fn12_current fn12_current_b0 fn12_current_b57 fn12_current_b60
            rw [k_110 h, nk_ck, cm]
            simp only [z_1, if_false]
            rw [k_110w h, sr110_29 (i_shp h'), nk_k, sk127 (i_shp h'), sl127 (i_shp h'), nk_in (by omega) (by omega), nI_clamp (by omega), rJ_wI, ← b4]
            simp only [hl, if_false]
            rw [sr110_25 (i_shp h'), nk_k, sk123 (i_shp h'), sl123 (i_shp h'), nk_in (by omega) (by omega), rI_ne M 0 0 (by decide), c6, wi_no _ (by omega) hy]
            rfl
        · have hidx : (14 : Int32) * nI i + nI e = nI (14 * i + e) := by
            rw [show (14 : Int32) = nI 14 from rfl, pk_mul, nI_add]
          refine ⟨(am_J M 129 (14 * i + e)).toInt32, M, am_wI M 110 0 0, ?_, sk110 (i_shp h), ?_, told, m, D, h'⟩
          · unfold fn11_current fn11_current_b0 fn11_current_b33
            rw [cl]
            simp only [hu, if_false]
            rw [if_neg (nI_pos (by omega)), nk_k, b3, c4, if_pos (nI_lt he (by omega)), nk_k, show am_K M (am_R M (am_R M (am_R M 105 i) 3) 3) = 14 from c8.2.2.1, show am_L M (am_R M (am_R M (am_R M 105 i) 3) 3) = w from c8.2.2.2, nk_in he (by omega), nI_clamp (by omega), (c9 hz).2 e he]
            rfl
          · unfold fn12_current fn12_current_b0 fn12_current_b60
            rw [k_110 h, nk_ck, cm]
            simp only [z_1, if_false]
            rw [k_110w h, sr110_29 (i_shp h'), nk_k, sk127 (i_shp h'), sl127 (i_shp h'), nk_in (by omega) (by omega), nI_clamp (by omega), rJ_wI, ← b4]
            simp only [hl, if_false]
            rw [sr110_25 (i_shp h'), nk_k, sk123 (i_shp h'), sl123 (i_shp h'), nk_in (by omega) (by omega), rI_ne M 0 0 (by decide), c6, wi_yes _ (by omega) he, nk_ck, nk_ck, nk_ck, nk_bd]
            simp only [z_1, if_false]
            rw [k_110w h, sr110_31 (i_shp h'), nk_k, sk129 (i_shp h'), sl129 (i_shp h'), hidx, nk_in (by omega) (by omega), nI_clamp (by omega)]
            rfl
theorem ok_level (N : Nat) : OK_level N Inv := by
  intro M x y ⟨told, m, D, h⟩
  have h' := inv_thr h 0
  have hm := i_m h
  have no : ∀ (P : Prop), P → P := fun _ p => p
  rcases pk_ix2 x (n := m) (by omega) with hx | ⟨i, hi, rfl⟩
  · refine ⟨-2147483648, M, am_wI M 110 0 0, ?_, sk110 (i_shp h), ?_, told, m, D, h'⟩
    · unfold fn11_level fn11_level_b0 fn11_flowingNet fn11_flowingNet_b0
      rw [cf_no h hx, nk_k, sk1 (i_shp h)]
      rfl
    · unfold fn12_level fn12_level_b0
      rw [k_110 h, mv_net_no h' hx]
      rfl
  · have t := i_til h hi
    rcases i_net h' hi with ⟨a, b⟩ | ⟨a, c, b⟩
    · refine ⟨-2147483648, M, am_wI M 110 0 0, ?_, sk110 (i_shp h), ?_, told, m, D, h'⟩
      · unfold fn11_level fn11_level_b0 fn11_flowingNet fn11_flowingNet_b0
        rw [cf_yes h hi, nk_k, sk1 (i_shp h)]
        simp only [tilr_ne t, k_til t, nk_ck, if_false]
        rw [show am_R M (am_R M 105 i) 3 = 0 from b]
        rfl
      · unfold fn12_level fn12_level_b0
        rw [k_110 h, mv_net h' hi, if_neg a]
        rfl
    · obtain ⟨⟨b1, b2, b3⟩, b4, b5, b6, p, w, c1, c2, c3, c4, c5, c6, c7, c8, c9⟩ := b
      rw [rR_wI] at b1 b2 b3 b4 b5 b6 c3 c4 c7 c8 c9
      rw [rI_ne M 0 0 (by omega)] at b6 c3 c4
      rw [rI_ne M 0 0 (by have := c7.1; omega), rI_ne M 0 0 (by have := c8.1; omega)] at c9
      rw [rI_ne M 0 0 (by decide)] at b6 c5 c6
      rw [rJ_wI] at b4 b5 c9
      rw [rK_wI] at b3
      have hu : ¬ am_R M (am_R M 105 i) 3 = 0 := by omega
      by_cases hz : am_J M (am_R M (am_R M 105 i) 3) 4 = 0
      · refine ⟨-2147483648, M, am_wI M 110 0 0, ?_, sk110 (i_shp h), ?_, told, m, D, h'⟩
        · unfold fn11_level fn11_level_b0 fn11_flowingNet fn11_flowingNet_b0
          rw [cf_yes h hi, nk_k, sk1 (i_shp h)]
          simp only [tilr_ne t, k_til t, nk_ck, if_false, hu]
          rw [nk_k, b3, hz]
          rfl
        · unfold fn12_level fn12_level_b0
          rw [k_110 h, mv_net h' hi, if_pos a, nk_ck, nk_bd]
          simp only [z_1, if_false]
          rw [k_110w h, sr110_29 (i_shp h'), nk_k, sk127 (i_shp h'), sl127 (i_shp h'), nk_in (by omega) (by omega), nI_clamp (by omega), rJ_wI, ← b4, hz]
          rfl
      · have hlt : 0 < am_J M (am_R M (am_R M 105 i) 3) 4 := by
          rw [Int64.lt_iff_toInt_lt] at b5 ⊢
          have : ¬ (am_J M (am_R M (am_R M 105 i) 3) 4).toInt = 0 := fun e => hz (Int64.toInt_inj.mp e)
          have e0 : (0 : Int64).toInt = 0 := rfl
          omega
        have hg : ¬ lg_cmp (am_J M (am_R M (am_R M 105 i) 3) 4) 0 = 0 := by rw [lg_cmp_eq]; exact hz
        have hl : ¬ lg_cmp (am_J M (am_R M (am_R M 105 i) 3) 4) 0 ≤ 0 := by rw [lg_cmp_le]; exact Int64.not_le.mpr hlt
        have cl : ∀ (k : Nat → am_Mem → Option (Int32 × am_Mem)), am_ck (am_k M 1 11) (am_bd (fn11_flowingNet M 1 (nI i)) k) = k (am_R M (am_R M 105 i) 3) M := by
          intro k
          unfold fn11_flowingNet fn11_flowingNet_b0
          rw [cf_yes h hi, nk_k, sk1 (i_shp h)]
          simp only [tilr_ne t, k_til t, nk_ck, if_false, hu]
          rw [nk_k, b3]
          simp only [hg, if_false]
          rfl
        have cm : ∀ (k : Int32 → am_Mem → Option (Int32 × am_Mem)), am_bd (fn12_isNet (am_wI M 110 0 0) 110 (nI i)) k = k 1 (am_wI M 110 0 0) := by
          intro k
          rw [mv_net h' hi, if_pos a]
          rfl
        rcases pk_ix2 y (n := p) (by omega) with hy | ⟨e, he, rfl⟩
        · refine ⟨-2147483648, M, am_wI M 110 0 0, ?_, sk110 (i_shp h), ?_, told, m, D, h'⟩
          · unfold fn11_level fn11_level_b0 fn11_level_b22 fn11_level_b33
            rw [cl]
            simp only [hu, if_false]
            by_cases h0 : y < 0
            · rw [if_pos h0]
            · rw [if_neg h0, nk_k, b3, c3, if_neg (Int32.not_lt.mpr (hy.resolve_left h0))]
              rfl
          · unfold fn12_level fn12_level_b0 fn12_level_b57 fn12_level_b60
            rw [k_110 h, nk_ck, cm]
            simp only [z_1, if_false]
            rw [k_110w h, sr110_29 (i_shp h'), nk_k, sk127 (i_shp h'), sl127 (i_shp h'), nk_in (by omega) (by omega), nI_clamp (by omega), rJ_wI, ← b4]
            simp only [hl, if_false]
            rw [sr110_24 (i_shp h'), nk_k, sk122 (i_shp h'), sl122 (i_shp h'), nk_in (by omega) (by omega), rI_ne M 0 0 (by decide), c5, wi_no _ (by omega) hy]
            rfl
        · have hidx : (9 : Int32) * nI i + nI e = nI (9 * i + e) := by
            rw [show (9 : Int32) = nI 9 from rfl, pk_mul, nI_add]
          refine ⟨(am_J M 128 (9 * i + e)).toInt32, M, am_wI M 110 0 0, ?_, sk110 (i_shp h), ?_, told, m, D, h'⟩
          · unfold fn11_level fn11_level_b0 fn11_level_b33
            rw [cl]
            simp only [hu, if_false]
            rw [if_neg (nI_pos (by omega)), nk_k, b3, c3, if_pos (nI_lt he (by omega)), nk_k, show am_K M (am_R M (am_R M (am_R M 105 i) 3) 2) = 14 from c7.2.2.1, show am_L M (am_R M (am_R M (am_R M 105 i) 3) 2) = p from c7.2.2.2, nk_in he (by omega), nI_clamp (by omega), (c9 hz).1 e he]
            rfl
          · unfold fn12_level fn12_level_b0 fn12_level_b60
            rw [k_110 h, nk_ck, cm]
            simp only [z_1, if_false]
            rw [k_110w h, sr110_29 (i_shp h'), nk_k, sk127 (i_shp h'), sl127 (i_shp h'), nk_in (by omega) (by omega), nI_clamp (by omega), rJ_wI, ← b4]
            simp only [hl, if_false]
            rw [sr110_24 (i_shp h'), nk_k, sk122 (i_shp h'), sl122 (i_shp h'), nk_in (by omega) (by omega), rI_ne M 0 0 (by decide), c5, wi_yes _ (by omega) he, nk_ck, nk_ck, nk_ck, nk_bd]
            simp only [z_1, if_false]
            rw [k_110w h, sr110_30 (i_shp h'), nk_k, sk128 (i_shp h'), sl128 (i_shp h'), hidx, nk_in (by omega) (by omega), nI_clamp (by omega)]
            rfl
