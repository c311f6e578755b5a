theorem tapr_fr {M M' : am_Mem} (h1 : am_I M' 2 7 = am_I M 2 7) (h2 : am_I M' 110 2 = am_I M 110 2) (h3 : am_I M' 3 = am_I M 3) (h4 : am_I M' 111 = am_I M 111) (h : TapR M) : TapR M' := by
  unfold TapR
  rw [h1, h2, h3, h4]
  exact h
theorem pagr_fr {M M' : am_Mem} (h1 : am_I M' 102 1 = am_I M 102 1) (h2 : am_I M' 110 42 = am_I M 110 42) (h3 : am_I M' 103 = am_I M 103) (h4 : am_I M' 135 = am_I M 135) (h : PagR M) : PagR M' := by
  unfold PagR
  rw [h1, h2, h3, h4]
  exact h
theorem nk_dd {α : Type} {n : Nat} {x : Option α} : am_ck (decide (n = n)) x = x := by
  rw [decide_eq_true rfl]
  rfl
theorem ok_undo (N : Nat) : OK_undo N Inv := by
  intro M ⟨told, m, D, h⟩
  have h' := inv_thr h 0
  have hm := i_m h
  obtain ⟨u, u1, u2, u3⟩ := h.2.2.2.2.1
  by_cases hz : u = 0
  · subst hz
    refine ⟨-1, M, am_wI M 110 0 0, ?_, sk110 (i_shp h), ?_, told, m, D, h'⟩
    · unfold fn11_undo fn11_undo_b0
      rw [nk_k, sk1 (i_shp h), u2]
      rfl
    · unfold fn12_undo fn12_undo_b0
      rw [k_110 h, rI_ix M 110 0 (by decide), u3]
      rfl
  · have e1 : nI u - 1 = nI (u - 1) := nk_sub u 1 (by omega)
    have e2 : nI m - 1 = nI (m - 1) := nk_sub m 1 (by omega)
    refine ⟨nI (u - 1), am_wI (am_wI M 104 1 (nI (m - 1))) 1 11 (nI (u - 1)), am_wI (am_wI (am_wI (am_wI (am_wI M 104 1 (nI (m - 1))) 1 11 (nI (u - 1))) 110 0 0) 110 19 (nI (u - 1))) 110 18 (nI (m - 1)), ?_, (show am_K M 110 = 12 from sk110 (i_shp h)), ?_, told, m - 1, D, ?_⟩
    · unfold fn11_undo fn11_undo_b0 fn9_dropLast fn9_dropLast_b0 fn9_dropLast_b17
      rw [nk_k, sk1 (i_shp h), u2, if_neg (nI_ne0 (by omega) (by omega)), sr1_8 (i_shp h), nk_k, sk104 (i_shp h), i_104 h, if_neg (nI_nle (by omega) (by omega)), e2, nk_dd, nk_dd, nk_dd, nk_bd, nk_k, rK_wI, sk1 (i_shp h), rI_ne M 1 _ (by decide), u2, e1, rI_eq]
      rfl
    · unfold fn12_undo fn12_undo_b0
      have q1 : am_I (am_wI (am_wI (am_wI M 104 1 (nI (m - 1))) 1 11 (nI (u - 1))) 110 0 0) 110 19 = nI u := by
        simp (disch := decide) only [rI_ne, rI_ix, u3]
      have q2 : am_I (am_wI (am_wI (am_wI (am_wI M 104 1 (nI (m - 1))) 1 11 (nI (u - 1))) 110 0 0) 110 19 (nI (u - 1))) 110 18 = nI m := by
        simp (disch := decide) only [rI_ne, rI_ix, i_18 h]
      rw [nk_k, rK_wI, rK_wI, sk110 (i_shp h), q1, if_neg (nI_ne0 (by omega) (by omega)), e1, q2, e2]
      rw [rI_ix _ _ _ (by decide), rI_eq]
      rfl
    · have d : Dyn M (am_wI (am_wI (am_wI (am_wI (am_wI M 104 1 (nI (m - 1))) 1 11 (nI (u - 1))) 110 0 0) 110 19 (nI (u - 1))) 110 18 (nI (m - 1))) :=
        dyn_trans (dyn_trans (dyn_trans (dyn_trans (dyn_wI _ _ (by decide)) (dyn_wI _ _ (by decide))) (dyn_wI _ _ (by decide))) (dyn_wI _ _ (by decide))) (dyn_wI _ _ (by decide))
      obtain ⟨s, t, p, l, _, g1, g2, g3, g4, g5, g6⟩ := h
      have tol : TolF M (am_wI (am_wI (am_wI (am_wI (am_wI M 104 1 (nI (m - 1))) 1 11 (nI (u - 1))) 110 0 0) 110 19 (nI (u - 1))) 110 18 (nI (m - 1))) := by
        refine ⟨?_, ?_, ?_, ?_, ?_, rfl, rfl, rfl⟩ <;> simp (disch := decide) only [rI_ne]
      refine ⟨s, tapr_fr ?_ ?_ ?_ ?_ t, pagr_fr ?_ ?_ ?_ ?_ p, linr_fr d rfl ?_ ?_ ?_ ?_ ?_ l, ⟨u - 1, by omega, ?_, ?_⟩, g1, ?_, ?_, ⟨by omega, by omega, ?_, fun i hi => recr_fr d tol rfl (fun k _ => ?_) (g4.2.2.2 i (by omega))⟩, kepr_fr d tol rfl ?_ ?_ ?_ ?_ g5, kepr_fr d tol rfl ?_ ?_ ?_ ?_ g6⟩ <;> simp (disch := decide) only [rI_ne, rI_ix, rI_eq, mA, if_true, if_false, g2]
