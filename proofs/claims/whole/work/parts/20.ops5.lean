theorem inv_98 {M : am_Mem} {told m : Nat} {D : Nat → Rc} (h : InvAt M told m D) : InvAt (am_new M 98 0) told m D := by
  have hn := (i_shp h).1
  exact inv_scr h (fr_new [] M 98 0) (by decide) (by rw [rI_new M 98 0 (by omega)]) (by rw [rI_new M 98 0 (by omega)]) (by rw [rI_new M 98 0 (by omega)]) (by rw [rI_new M 98 0 (by omega)]) (by rw [rI_new M 98 0 (by omega)]) (by rw [rI_new M 98 0 (by omega)])
theorem inv_out {M : am_Mem} {told m : Nat} {D : Nat → Rc} (h : InvAt M told m D) (v : Int64) : InvAt (am_wJ M 141 0 v) told m D :=
  inv_scr h (fr_wJ M (W := [141]) 0 v (by decide)) (by decide +kernel) rfl rfl rfl rfl rfl rfl
section
variable {M : am_Mem} {told m : Nat} {D : Nat → Rc}
theorem ms_no (h : InvAt M told m D) {x : Int32} (hx : x < 0 ∨ nI m ≤ x) (y : Int32) : fn12_isSquare M 110 x y = some (0, M) := by
  unfold fn12_isSquare fn12_isSquare_b0 fn12_isSquare_b30 fn12_isSquare_b31
  rw [k_110 h, mi_no h hx]
  rfl
theorem ms_no2 (h : InvAt M told m D) {i : Nat} (hi : i < m) {y : Int32} (hy : y < 0 ∨ nI (D i).2.2.2.length ≤ y) : fn12_isSquare M 110 (nI i) y = some (0, M) := by
  have hl := i_len h hi
  unfold fn12_isSquare fn12_isSquare_b0 fn12_isSquare_b30 fn12_isSquare_b31
  rw [k_110 h, mi_yes h hi, nk_ck, nk_bd]
  simp only [z_1, if_false]
  rw [k_110 h, mv_n h hi, nk_ck, nk_bd, wi_no M (by omega) hy]
  rfl
theorem ms_yes (h : InvAt M told m D) {i k : Nat} (hi : i < m) (hk : k < (D i).2.2.2.length) : fn12_isSquare M 110 (nI i) (nI k) = some (1, M) := by
  have hl := i_len h hi
  unfold fn12_isSquare fn12_isSquare_b0 fn12_isSquare_b30 fn12_isSquare_b31
  rw [k_110 h, mi_yes h hi, nk_ck, nk_bd]
  simp only [z_1, if_false]
  rw [k_110 h, mv_n h hi, nk_ck, nk_bd, wi_yes M (by omega) hk]
  rfl
theorem m_thrown (h : InvAt M told m D) (v : Int32) : fn12_thrown (am_wI M 110 0 v) 110 = some (v, am_wI M 110 0 v) := by
  unfold fn12_thrown fn12_thrown_b0
  rw [k_110w h, nk_ck, rI_eq]
theorem sq_thr (h : InvAt M told m D) {x y z : Int32} (hc : fn11_square M 1 x y z = none) (hx : fnx11_square M 1 x y z = some ((), M)) (hm : fn12_square (am_new M 98 0) 110 x y z = some (0, am_wI (am_new M 98 0) 110 0 1)) :
    ∃ (v w : Int32) (M1 M2 M3 : am_Mem), fnL_square M 1 x y z 141 = some (v, M1) ∧ am_K M1 110 = 12 ∧ fn12_square M1 110 x y z = some (w, M2) ∧ am_K M2 110 = 12 ∧ fn12_thrown M2 110 = some (v, M3) ∧ (v = 0 → am_J M3 141 0 = w.toInt64) ∧ Inv M3 := by
  have g := inv_98 h
  refine ⟨1, 0, am_new M 98 0, am_wI (am_new M 98 0) 110 0 1, am_wI (am_new M 98 0) 110 0 1, ?_, sk110 (i_shp g), hm, (show am_K (am_new M 98 0) 110 = 12 from sk110 (i_shp g)), m_thrown g 1, fun e => absurd e (by decide), told, m, D, inv_thr g 1⟩
  unfold fnL_square
  rw [hc, hx, nk_k, sk1 (i_shp h)]
  rfl
theorem sq_ret (h : InvAt M told m D) {x y z w : Int32} (hc : fn11_square M 1 x y z = some (w, M)) (hm : fn12_square (am_wJ M 141 0 w.toInt64) 110 x y z = some (w, am_wI (am_wJ M 141 0 w.toInt64) 110 0 0)) :
    ∃ (v w : Int32) (M1 M2 M3 : am_Mem), fnL_square M 1 x y z 141 = some (v, M1) ∧ am_K M1 110 = 12 ∧ fn12_square M1 110 x y z = some (w, M2) ∧ am_K M2 110 = 12 ∧ fn12_thrown M2 110 = some (v, M3) ∧ (v = 0 → am_J M3 141 0 = w.toInt64) ∧ Inv M3 := by
  have g := inv_out h w.toInt64
  refine ⟨0, w, am_wJ M 141 0 w.toInt64, am_wI (am_wJ M 141 0 w.toInt64) 110 0 0, am_wI (am_wJ M 141 0 w.toInt64) 110 0 0, ?_, sk110 (i_shp g), hm, (show am_K (am_wJ M 141 0 w.toInt64) 110 = 12 from sk110 (i_shp g)), m_thrown g 0, fun e => rJ_eq _ _ _ _, told, m, D, inv_thr g 0⟩
  unfold fnL_square
  rw [hc, nk_k, sk1 (i_shp h)]
  show am_ck _ (am_ck (am_k M 141 15) (am_ck (am_in 0 (am_L M 141)) _)) = _
  rw [nk_k, sk141 (i_shp h), sl141 (i_shp h), nk_dd, nk_dd]
  rfl
theorem m_sq1 (h : InvAt M told m D) {x y z : Int32} (hs : fn12_isSquare M 110 x y = some (0, M)) : fn12_square M 110 x y z = some (0, am_wI M 110 0 1) := by
  unfold fn12_square fn12_square_b0 fn12_square_b26 fn12_square_b27 fn12_square_b73
  rw [k_110 h, hs, nk_ck, nk_bd]
  simp only [if_true]
  rw [k_110 h, nk_ck, nk_ck, rI_eq, if_pos rfl]
theorem m_sq2 (h : InvAt M told m D) {x y z : Int32} (hs : fn12_isSquare M 110 x y = some (1, M)) (hz : ¬ (z = 0 ∨ z = 1 ∨ z = 2)) : fn12_square M 110 x y z = some (0, am_wI M 110 0 1) := by
  have hw : fn12_within M z.toInt64 0 2 = some (0, M) := by
    rw [show (0 : Int64) = (0 : Int32).toInt64 from rfl, show (2 : Int64) = (2 : Int32).toInt64 from rfl, wi_lit, if_neg]
    intro ⟨a, b⟩
    rw [Int32.le_iff_toInt_le] at a b
    have e0 : (0 : Int32).toInt = 0 := rfl
    have e2 : (2 : Int32).toInt = 2 := rfl
    have e1 : (1 : Int32).toInt = 1 := rfl
    apply hz
    rw [← Int32.toInt_inj, ← Int32.toInt_inj, ← Int32.toInt_inj]
    omega
  unfold fn12_square fn12_square_b0 fn12_square_b26 fn12_square_b27 fn12_square_b73
  rw [k_110 h, hs, nk_ck, nk_bd]
  simp only [z_1, if_false]
  rw [hw, nk_bd]
  simp only [if_true]
  rw [k_110 h, nk_ck, nk_ck, rI_eq, if_pos rfl]
theorem m_sq3 (h : InvAt M told m D) {i k : Nat} {z : Int32} (hi : i < m) (hk : k < (D i).2.2.2.length) (hz : z = 0 ∨ z = 1 ∨ z = 2) : fn12_square M 110 (nI i) (nI k) z = some (if z = 0 then qX (D i).2.2.2 k else if z = 1 then qY (D i).2.2.2 k else qS (D i).2.2.2 k, am_wI M 110 0 0) := by
  have h' := inv_thr h 0
  have hw : fn12_within M z.toInt64 0 2 = some (1, M) := by
    rw [show (0 : Int64) = (0 : Int32).toInt64 from rfl, show (2 : Int64) = (2 : Int32).toInt64 from rfl, wi_lit, if_pos]
    rcases hz with rfl | rfl | rfl <;> decide
  unfold fn12_square fn12_square_b0 fn12_square_b26 fn12_square_b27 fn12_square_b70 fn12_square_b73
  rw [k_110 h, ms_yes h hi hk, nk_ck, nk_bd]
  simp only [z_1, if_false]
  rw [hw, nk_bd]
  simp only [z_1, if_false]
  rw [k_110 h, nk_ck, nk_ck, rI_eq, k_110w h, mv_X h' hi hk, mv_Y h' hi hk, mv_S h' hi hk]
  rcases hz with rfl | rfl | rfl <;> rfl
end
theorem ok_square (N : Nat) : OK_square N Inv := by
  intro M x y z ⟨told, m, D, h⟩
  have hm := i_m h
  have g := inv_98 h
  rcases pk_ix2 x (n := m) (by omega) with hx | ⟨i, hi, rfl⟩
  · apply sq_thr h
    · unfold fn11_square fn11_square_b0
      rw [cf_no h hx]
      rfl
    · unfold fnx11_square fnx11_square_b0
      rw [cf_no h hx]
      rfl
    · exact m_sq1 g (ms_no g hx y)
  · have t := i_til h hi
    have hl := i_len h hi
    rcases pk_ix2 y (n := (D i).2.2.2.length) (by omega) with hy | ⟨k, hk, rfl⟩
    · apply sq_thr h
      · unfold fn11_square fn11_square_b0 fn11_square_b28
        rw [cf_yes h hi]
        simp only [tilr_ne t, k_til t, nk_ck, if_false]
        by_cases h0 : y < 0
        · rw [if_pos h0]
        · rw [if_neg h0, t.2.1.2.1, if_neg (Int32.not_lt.mpr (hy.resolve_left h0))]
      · unfold fnx11_square fnx11_square_b0 fnx11_square_b28
        rw [cf_yes h hi]
        simp only [tilr_ne t, k_til t, nk_ck, if_false]
        by_cases h0 : y < 0
        · rw [if_pos h0]
        · rw [if_neg h0, t.2.1.2.1, if_neg (Int32.not_lt.mpr (hy.resolve_left h0))]
      · exact m_sq1 g (ms_no2 g hi hy)
    · by_cases hz : z = 0 ∨ z = 1 ∨ z = 2
      · refine sq_ret (w := if z = 0 then qX (D i).2.2.2 k else if z = 1 then qY (D i).2.2.2 k else qS (D i).2.2.2 k) h ?_ (m_sq3 (inv_out h _) hi hk hz)
        obtain ⟨_, t2, t3, t4, t5, t6, t7, t8⟩ := t
        unfold fn11_square fn11_square_b0
        rw [cf_yes h hi]
        simp only [tilr_ne (i_til h hi), k_til (i_til h hi), nk_ck, if_false]
        rw [if_neg (nI_pos (by omega)), t2.2.1, if_pos (nI_lt hk (by omega)), nk_k, nk_k, nk_k, t3.2.2.1, t4.2.2.1, t5.2.2.1, t3.2.2.2, t4.2.2.2, t5.2.2.2, nk_in hk (by omega), nI_clamp (by omega), t6 k hk, t7 k hk, t8 k hk]
        rcases hz with rfl | rfl | rfl <;> rfl
      · have z0 : ¬ z = 0 := fun e => hz (Or.inl e)
        have z1 : ¬ z = 1 := fun e => hz (Or.inr (Or.inl e))
        have z2 : ¬ z = 2 := fun e => hz (Or.inr (Or.inr e))
        apply sq_thr h
        · unfold fn11_square fn11_square_b0
          rw [cf_yes h hi]
          simp only [tilr_ne t, k_til t, nk_ck, if_false]
          rw [if_neg (nI_pos (by omega)), t.2.1.2.1, if_pos (nI_lt hk (by omega)), if_neg z0, if_neg z1, if_neg z2]
        · unfold fnx11_square fnx11_square_b0
          rw [cf_yes h hi]
          simp only [tilr_ne t, k_til t, nk_ck, if_false]
          rw [if_neg (nI_pos (by omega)), t.2.1.2.1, if_pos (nI_lt hk (by omega)), if_neg z0, if_neg z1, if_neg z2]
        · exact m_sq2 g (ms_yes g hi hk) hz
