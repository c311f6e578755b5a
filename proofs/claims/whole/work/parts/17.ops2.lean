section
variable {M : am_Mem} {told m : Nat} {D : Nat → Rc}
theorem cf_no {α : Type} (h : InvAt M told m D) {x : Int32} (hx : x < 0 ∨ nI m ≤ x) (k : Nat → am_Mem → Option α) : am_ck (am_k M 1 11) (am_ck (am_k M (am_R M 1 8) 9) (am_bd (fn9_find M (am_R M 1 8) x) k)) = k 0 M := by
  rw [sr1_8 (i_shp h), fi_no h hx, nk_k, nk_k, sk1 (i_shp h), sk104 (i_shp h)]
  rfl
theorem cf_yes {α : Type} (h : InvAt M told m D) {i : Nat} (hi : i < m) (k : Nat → am_Mem → Option α) : am_ck (am_k M 1 11) (am_ck (am_k M (am_R M 1 8) 9) (am_bd (fn9_find M (am_R M 1 8) (nI i)) k)) = k (am_R M 105 i) M := by
  rw [sr1_8 (i_shp h), fi_yes h hi, nk_k, nk_k, sk1 (i_shp h), sk104 (i_shp h)]
  rfl
theorem k_110 (h : InvAt M told m D) : am_k M 110 12 = true := lw_kt (sk110 (i_shp h))
theorem k_110w (h : InvAt M told m D) (v : Int32) : am_k (am_wI M 110 0 v) 110 12 = true := lw_kt (show am_K M 110 = 12 from sk110 (i_shp h))
theorem k_til {t : Nat} {q : Rc} (h : TilR M t q) : am_k M t 10 = true := lw_kt h.1.2.2
theorem z_neg1 : ¬ ((-1 : Int32) = 0) := by decide
theorem z_1 : ¬ ((1 : Int32) = 0) := by decide
end
theorem ok_laid (N : Nat) : OK_laid N Inv := by
  intro M x ⟨told, m, D, h⟩
  have h' := inv_thr h 0
  have hm := i_m h
  have ht := i_t6 h
  rcases pk_ix x (n := m) (by omega) with hx | hx | ⟨i, hi, rfl⟩
  · refine ⟨-1, M, am_wI M 110 0 0, ?_, sk110 (i_shp h), ?_, told, m, D, h'⟩
    · unfold fn11_laid fn11_laid_b0
      rw [cf_no h (Or.inl hx)]
      rfl
    · unfold fn12_laid fn12_laid_b0
      rw [k_110 h, mi_no h' (Or.inl hx)]
      rfl
  · refine ⟨-1, M, am_wI M 110 0 0, ?_, sk110 (i_shp h), ?_, told, m, D, h'⟩
    · unfold fn11_laid fn11_laid_b0
      rw [cf_no h (Or.inr hx)]
      rfl
    · unfold fn12_laid fn12_laid_b0
      rw [k_110 h, mi_no h' (Or.inr hx)]
      rfl
  · have t := i_til h hi
    have hk : am_I (am_wI M 110 0 0) (am_R (am_wI M 110 0 0) 105 i) 0 = am_I M (am_R M 105 i) 0 := by
      rw [rR_wI, rI_ne M 0 0 (by have := t.1.1; omega)]
    by_cases hc : i < told
    · rcases ((i_rec h hi).2.2.2.2.1 hc).2 with ⟨a, b, c⟩ | ⟨a, b⟩
      · refine ⟨am_I M 125 i, M, am_wI M 110 0 0, ?_, sk110 (i_shp h), ?_, told, m, D, h'⟩
        · unfold fn11_laid fn11_laid_b0 fn11_laid_b31
          rw [cf_yes h hi]
          simp only [tilr_ne t, k_til t, nk_ck, if_false]
          rw [show am_I M (am_R M 105 i) 0 = 0 from a, if_pos rfl, show am_I M (am_R M 105 i) 2 = am_I M 125 i from b]
        · unfold fn12_laid fn12_laid_b0 fn12_laid_b36
          rw [k_110 h, mi_yes h' hi, nk_ck, nk_bd]
          simp only [z_1, if_false]
          rw [k_110w h, mv_kind h' hi, nk_ck, nk_bd, hk, show am_I M (am_R M 105 i) 0 = 0 from a]
          simp only [if_true]
          rw [k_110w h, sr110_27 (i_shp h'), nk_k, sk125 (i_shp h'), sl125 (i_shp h'), nk_in (by omega) (by omega), nI_clamp (by omega), rI_ne M 0 0 (by decide)]
          rfl
      · refine ⟨-2, M, am_wI M 110 0 0, ?_, sk110 (i_shp h), ?_, told, m, D, h'⟩
        · unfold fn11_laid fn11_laid_b0 fn11_laid_b31
          rw [cf_yes h hi]
          simp only [tilr_ne t, k_til t, nk_ck, if_false]
          rw [show am_I M (am_R M 105 i) 0 = 1 from a]
          rfl
        · unfold fn12_laid fn12_laid_b0 fn12_laid_b36
          rw [k_110 h, mi_yes h' hi, nk_ck, nk_bd]
          simp only [z_1, if_false]
          rw [k_110w h, mv_kind h' hi, nk_ck, nk_bd, hk, show am_I M (am_R M 105 i) 0 = 1 from a]
          rfl
    · have a := ((i_rec h hi).2.2.2.2.2 (by omega)).1
      refine ⟨-2, M, am_wI M 110 0 0, ?_, sk110 (i_shp h), ?_, told, m, D, h'⟩
      · unfold fn11_laid fn11_laid_b0 fn11_laid_b31
        rw [cf_yes h hi]
        simp only [tilr_ne t, k_til t, nk_ck, if_false]
        rw [show am_I M (am_R M 105 i) 0 = 2 from a]
        rfl
      · unfold fn12_laid fn12_laid_b0 fn12_laid_b36
        rw [k_110 h, mi_yes h' hi, nk_ck, nk_bd]
        simp only [z_1, if_false]
        rw [k_110w h, mv_kind h' hi, nk_ck, nk_bd, hk, show am_I M (am_R M 105 i) 0 = 2 from a]
        rfl
theorem pk_ix2 (x : Int32) {n : Nat} (hn : n < 2 ^ 31) : (x < 0 ∨ nI n ≤ x) ∨ ∃ j : Nat, j < n ∧ x = nI j := by
  rcases pk_ix x hn with h | h | h
  · exact Or.inl (Or.inl h)
  · exact Or.inl (Or.inr h)
  · exact Or.inr h
theorem good_f {q : Rc} (h : Good q) : (q.1 = 1 ∧ q.2.2.2 = []) ∨ (q.1 = 0 ∧ Geo q.2.1.toInt q.2.2.1.toInt q.2.2.2) := by
  rcases h with ⟨a, _, _, b⟩ | h
  · exact Or.inl ⟨a, b⟩
  · exact Or.inr h
theorem ok_area (N : Nat) : OK_area N Inv := by
  intro M x ⟨told, m, D, h⟩
  have h' := inv_thr h 0
  have hm := i_m h
  rcases pk_ix2 x (n := m) (by omega) with hx | ⟨i, hi, rfl⟩
  · refine ⟨-1, M, am_wI M 110 0 0, ?_, sk110 (i_shp h), ?_, told, m, D, h'⟩
    · unfold fn11_area fn11_area_b0
      rw [cf_no h hx]
      rfl
    · unfold fn12_area fn12_area_b0
      rw [k_110 h, mi_no h' hx]
      rfl
  · have t := i_til h hi
    rcases good_f (i_good h hi) with ⟨a, b⟩ | ⟨a, b⟩
    · refine ⟨-2, M, am_wI M 110 0 0, ?_, sk110 (i_shp h), ?_, told, m, D, h'⟩
      · unfold fn11_area fn11_area_b0 fn11_area_b20 fn11_refusalFor fn11_refusalFor_b0 fn11_refusalFor_b10
        rw [cf_yes h hi]
        simp only [tilr_ne t, k_til t, nk_ck, if_false]
        rw [t.2.1.1, a]
        rfl
      · unfold fn12_area fn12_area_b0
        rw [k_110 h, mi_yes h' hi, nk_ck, nk_bd]
        simp only [z_1, if_false]
        rw [k_110w h, mv_fail h' hi, a]
        rfl
    · refine ⟨(D i).2.1.toInt64 * (D i).2.2.1.toInt64, M, am_wI M 110 0 0, ?_, sk110 (i_shp h), ?_, told, m, D, h'⟩
      · unfold fn11_area fn11_area_b0
        rw [cf_yes h hi]
        simp only [tilr_ne t, k_til t, nk_ck, if_false]
        rw [t.2.1.1, a, t.2.1.2.2.1, t.2.1.2.2.2]
        rfl
      · unfold fn12_area fn12_area_b0
        rw [k_110 h, mi_yes h' hi, nk_ck, nk_bd]
        simp only [z_1, if_false]
        rw [k_110w h, mv_fail h' hi, a, nk_ck, nk_bd]
        simp only [if_true]
        rw [k_110w h, nk_ck, mv_w h' hi, nk_bd, k_110w h, nk_ck, mv_h h' hi]
        rfl
theorem mv_net {M : am_Mem} {told m : Nat} {D : Nat → Rc} (h : InvAt M told m D) {i : Nat} (hi : i < m) : fn12_isNet M 110 (nI i) = some (if am_I M (am_R M 105 i) 0 = 1 then 1 else 0, M) := by
  unfold fn12_isNet fn12_isNet_b0 fn12_isNet_b21 fn12_isNet_b22
  rw [k_110 h, mi_yes h hi, nk_ck, nk_bd]
  simp only [z_1, if_false]
  rw [k_110 h, nk_ck, mv_kind h hi, nk_bd]
  split <;> rfl
theorem mv_net_no {M : am_Mem} {told m : Nat} {D : Nat → Rc} (h : InvAt M told m D) {x : Int32} (hx : x < 0 ∨ nI m ≤ x) : fn12_isNet M 110 x = some (0, M) := by
  unfold fn12_isNet fn12_isNet_b0 fn12_isNet_b21 fn12_isNet_b22
  rw [k_110 h, mi_no h hx, nk_ck, nk_bd]
  rfl
/-- a net, or none -/
theorem i_net {M : am_Mem} {told m : Nat} {D : Nat → Rc} (h : InvAt M told m D) {i : Nat} (hi : i < m) : (¬ am_I M (am_R M 105 i) 0 = 1 ∧ am_R M (am_R M 105 i) 3 = 0) ∨ (am_I M (am_R M 105 i) 0 = 1 ∧ i < 6 ∧ NetR M (am_R M (am_R M 105 i) 3) i) := by
  have ht := i_t6 h
  by_cases hc : i < told
  · rcases ((i_rec h hi).2.2.2.2.1 hc).2 with ⟨a, b, c⟩ | ⟨a, b⟩
    · refine Or.inl ⟨?_, c⟩
      rw [show am_I M (am_R M 105 i) 0 = 0 from a]
      decide
    · exact Or.inr ⟨a, by omega, b⟩
  · obtain ⟨a, b⟩ := (i_rec h hi).2.2.2.2.2 (by omega)
    refine Or.inl ⟨?_, b⟩
    rw [show am_I M (am_R M 105 i) 0 = 2 from a]
    decide
theorem ok_trees (N : Nat) : OK_trees N Inv := by
  intro M x ⟨told, m, D, h⟩
  have h' := inv_thr h 0
  have hm := i_m h
  rcases pk_ix2 x (n := m) (by omega) with hx | ⟨i, hi, rfl⟩
  · refine ⟨-1, M, am_wI M 110 0 0, ?_, sk110 (i_shp h), ?_, told, m, D, h'⟩
    · unfold fn11_trees fn11_trees_b0
      rw [cf_no h hx]
      rfl
    · unfold fn12_trees fn12_trees_b0
      rw [k_110 h, mi_no h' hx]
      rfl
  · have t := i_til h hi
    rcases i_net h' hi with ⟨a, b⟩ | ⟨a, c, b⟩
    · refine ⟨-2, M, am_wI M 110 0 0, ?_, sk110 (i_shp h), ?_, told, m, D, h'⟩
      · unfold fn11_trees fn11_trees_b0
        rw [cf_yes h hi]
        simp only [tilr_ne t, k_til t, nk_ck, if_false]
        rw [show am_R M (am_R M 105 i) 3 = 0 from b]
        rfl
      · unfold fn12_trees fn12_trees_b0
        rw [k_110 h, mi_yes h' hi, nk_ck, nk_bd]
        simp only [z_1, if_false]
        rw [k_110w h, mv_net h' hi, if_neg a]
        rfl
    · have hu : ¬ am_R M (am_R M 105 i) 3 = 0 := by have := b.1.1; rw [rR_wI] at this; omega
      refine ⟨am_J M 127 i, M, am_wI M 110 0 0, ?_, sk110 (i_shp h), ?_, told, m, D, h'⟩
      · unfold fn11_trees fn11_trees_b0 fn11_trees_b37
        rw [cf_yes h hi]
        simp only [tilr_ne t, k_til t, nk_ck, if_false, hu]
        rw [nk_k, show am_K M (am_R M (am_R M 105 i) 3) = 3 from b.1.2.2, show am_J M (am_R M (am_R M 105 i) 3) 4 = am_J M 127 i from b.2.1]
        rfl
      · unfold fn12_trees fn12_trees_b0 fn12_trees_b39
        rw [k_110 h, mi_yes h' hi, nk_ck, nk_bd]
        simp only [z_1, if_false]
        rw [k_110w h, mv_net h' hi, if_pos a, nk_ck, nk_bd]
        simp only [z_1, if_false]
        rw [k_110w h, sr110_29 (i_shp h'), nk_k, sk127 (i_shp h'), sl127 (i_shp h'), nk_in (by omega) (by omega), nI_clamp (by omega)]
        rfl
theorem ok_layings (N : Nat) : OK_layings N Inv := by
  intro M x ⟨told, m, D, h⟩
  have h' := inv_thr h 0
  have hm := i_m h
  rcases pk_ix2 x (n := m) (by omega) with hx | ⟨i, hi, rfl⟩
  · refine ⟨-1, M, am_wI M 110 0 0, ?_, sk110 (i_shp h), ?_, told, m, D, h'⟩
    · unfold fn11_layings fn11_layings_b0
      rw [cf_no h hx]
      rfl
    · unfold fn12_layings fn12_layings_b0
      rw [k_110 h, mi_no h' hx]
      rfl
  · have t := i_til h hi
    rcases i_net h' hi with ⟨a, b⟩ | ⟨a, c, b⟩
    · refine ⟨-2, M, am_wI M 110 0 0, ?_, sk110 (i_shp h), ?_, told, m, D, h'⟩
      · unfold fn11_layings fn11_layings_b0
        rw [cf_yes h hi]
        simp only [tilr_ne t, k_til t, nk_ck, if_false]
        rw [show am_R M (am_R M 105 i) 3 = 0 from b]
        rfl
      · unfold fn12_layings fn12_layings_b0
        rw [k_110 h, mi_yes h' hi, nk_ck, nk_bd]
        simp only [z_1, if_false]
        rw [k_110w h, mv_net h' hi, if_neg a]
        rfl
    · have hu : ¬ am_R M (am_R M 105 i) 3 = 0 := by have := b.1.1; rw [rR_wI] at this; omega
      have hv := b.2.2.2.1
      refine ⟨am_I (am_wI M 110 0 0) 126 i, M, am_wI M 110 0 0, ?_, sk110 (i_shp h), ?_, told, m, D, h'⟩
      · unfold fn11_layings fn11_layings_b0 fn11_layings_b34
        rw [cf_yes h hi]
        simp only [tilr_ne t, k_til t, nk_ck, if_false, hu]
        rw [← hv, nk_k, show am_K M (am_R M (am_R M 105 i) 3) = 3 from b.1.2.2, rR_wI, rI_ne M 0 0 (by have := b.1.1; rw [rR_wI] at this; omega)]
        rfl
      · unfold fn12_layings fn12_layings_b0 fn12_layings_b36
        rw [k_110 h, mi_yes h' hi, nk_ck, nk_bd]
        simp only [z_1, if_false]
        rw [k_110w h, mv_net h' hi, if_pos a, nk_ck, nk_bd]
        simp only [z_1, if_false]
        rw [k_110w h, sr110_28 (i_shp h'), nk_k, sk126 (i_shp h'), sl126 (i_shp h'), nk_in (by omega) (by omega), nI_clamp (by omega)]
        rfl
theorem ok_at (N : Nat) : OK_at N Inv := by
  intro M x ⟨told, m, D, h⟩
  have h' := inv_thr h 0
  obtain ⟨f, f1, f2, f3, f4⟩ := h.2.2.1
  obtain ⟨g, g1, g2, g3, g4⟩ := h'.2.2.1
  have hg : am_I (am_wI M 110 0 0) 110 42 = nI f := (rI_ix M 110 0 (by decide)).trans f3
  rcases pk_ix2 x (n := f) (by omega) with hx | ⟨i, hi, rfl⟩
  · refine ⟨-1, M, am_wI M 110 0 0, ?_, sk110 (i_shp h), ?_, told, m, D, h'⟩
    · unfold fn11_at fn11_at_b0 fn11_at_b15 fn11_at_b28
      by_cases h0 : x < 0
      · rw [if_pos h0]
      · rw [if_neg h0, nk_k, sk1 (i_shp h), sr1_7 (i_shp h), nk_k, sk102 (i_shp h), f2, if_neg (Int32.not_lt.mpr (hx.resolve_left h0))]
        rfl
    · unfold fn12_at fn12_at_b0
      rw [k_110 h, hg, wi_no _ (by omega) hx]
      rfl
  · refine ⟨am_I M 103 i, M, am_wI M 110 0 0, ?_, sk110 (i_shp h), ?_, told, m, D, h'⟩
    · unfold fn11_at fn11_at_b0 fn11_at_b15 fn11_at_b28
      rw [if_neg (nI_pos (by omega)), nk_k, sk1 (i_shp h), sr1_7 (i_shp h), nk_k, sk102 (i_shp h), f2, if_pos (nI_lt hi (by omega)), sr102_0 (i_shp h), nk_k, sk103 (i_shp h), sl103 (i_shp h), nk_in (by omega) (by omega), nI_clamp (by omega)]
      rfl
    · unfold fn12_at fn12_at_b0 fn12_at_b31
      rw [k_110 h, hg, wi_yes _ (by omega) hi, nk_ck, nk_bd]
      simp only [z_1, if_false]
      rw [k_110w h, sr110_41 (i_shp h'), nk_k, sk135 (i_shp h'), sl135 (i_shp h'), nk_in (by omega) (by omega), nI_clamp (by omega), rI_ne M 0 0 (by decide), f4 i hi]
      rfl
