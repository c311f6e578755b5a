/-- the sides as the reference takes them -/
def mdS (L : List Sq) : Nat → List Ln
  | 0 => []
  | j + 1 => lnLow (sqF L j) :: lnTop (sqF L j) :: mdS L j
theorem mdS_perm (L : List Sq) : ∀ j, (((List.range j).map (sqF L)).map lnTop ++ ((List.range j).map (sqF L)).map lnLow).Perm (mdS L j)
  | 0 => List.Perm.refl _
  | j + 1 => by
    have ih := mdS_perm L j
    rw [List.range_succ, List.map_append, List.map_append, List.map_append, List.append_assoc]
    show (((List.range j).map (sqF L)).map lnTop ++ ([lnTop (sqF L j)] ++ (((List.range j).map (sqF L)).map lnLow ++ [lnLow (sqF L j)]))).Perm (lnLow (sqF L j) :: lnTop (sqF L j) :: mdS L j)
    refine List.perm_middle.trans ?_
    refine (List.Perm.cons _ ?_).trans (List.Perm.swap _ _ _)
    show (((List.range j).map (sqF L)).map lnTop ++ (((List.range j).map (sqF L)).map lnLow ++ [lnLow (sqF L j)])).Perm _
    rw [← List.append_assoc]
    exact (List.perm_append_singleton _ _).trans (ih.cons _)
theorem mdS_all {w h : Int} {L : List Sq} (g : Geo w h L) {T : List Ln} (c : Can T) (e : Eqv (mdS L L.length) T) : T = lnS L := by
  obtain ⟨e2, c2⟩ := lnS_ok g
  refine can_uniq c c2 (eqv_trans (eqv_symm e) (eqv_trans (eqv_symm (eqv_perm ?_)) e2))
  have := mdS_perm L L.length
  rw [show (List.range L.length).map (sqF L) = L from sqF_of L] at this
  exact this
theorem side_pos {w h : Int} {L : List Sq} (g : Geo w h L) {k : Nat} (hk : k < L.length) : lL (lnTop (sqF L k)) < lR (lnTop (sqF L k)) ∧ lL (lnLow (sqF L k)) < lR (lnLow (sqF L k)) := by
  obtain ⟨a1, a2, a3, a4, a5, a6, a7⟩ := geo_at g hk
  have : (qX L k).toInt < (qX L k + qS L k).toInt := by omega
  exact ⟨this, this⟩
theorem ll_loop {N : Nat} (hN : 100000 ≤ N) {m i : Nat} {D : Nat → Rc} (hi : i < m) {w h : Int} (g : Geo w h (D i).2.2.2) : ∀ k j fuel M T, j + k = (D i).2.2.2.length → k < fuel → ModI M m D → LmC M T → Can T → Eqv (mdS (D i).2.2.2 j) T → T.length ≤ 2 * j → ∃ M', fn12_laysLines_b7 N fuel 110 (nI i) (nI j) M = some ((), M') ∧ Fs mW M M' ∧ (∀ i, ¬ i = 47 → am_I M' 110 i = am_I M 110 i) ∧ LmC M' (lnS (D i).2.2.2) := by
  have hl := g.2.1
  intro k
  induction k with
  | zero =>
    intro j fuel M T hj hf mi c cn e ht
    obtain ⟨f, rfl⟩ : ∃ f, fuel = f + 1 := ⟨fuel - 1, by omega⟩
    have : j = (D i).2.2.2.length := by omega
    subst this
    refine ⟨M, ?_, fs_refl _ _, fun _ _ => rfl, by rw [← mdS_all g cn e]; exact c⟩
    show fn12_laysLines_b7B N (fn12_laysLines_b7 N f) 110 (nI i) (nI _) M = _
    unfold fn12_laysLines_b7B
    rw [kw_110 mi, nk_ck, mw_n mi hi, nk_bd, if_pos (nI_le (Nat.le_refl _) (by omega))]
  | succ k ih =>
    intro j fuel M T hj hf mi c cn e ht
    obtain ⟨f, rfl⟩ : ∃ f, fuel = f + 1 := ⟨fuel - 1, by omega⟩
    have hj' : j < (D i).2.2.2.length := by omega
    obtain ⟨p1, p2⟩ := side_pos g hj'
    obtain ⟨M1, T1, e1, f1, d1, c1, cn1, q1, l1⟩ := cm_side hN mi.1 c (by omega) cn p1
    have m1 := modI_fs f1 (by decide) (d1 18 (by decide)) mi
    obtain ⟨M2, T2, e2, f2, d2, c2, cn2, q2, l2⟩ := cm_side hN m1.1 c1 (by omega) cn1 p2
    have m2 := modI_fs f2 (by decide) (d2 18 (by decide)) m1
    obtain ⟨M', e3, f3, d3, c3⟩ := ih (j + 1) f M2 T2 (by omega) (by omega) m2 c2 cn2 (eqv_trans (eqv_cons _ (eqv_trans (eqv_cons _ e) q1)) q2) (by omega)
    refine ⟨M', ?_, fs_trans (fs_trans f1 f2) f3, fun i hi => by rw [d3 i hi, d2 i hi, d1 i hi], c3⟩
    have hle : ¬ nI (D i).2.2.2.length ≤ nI j := nI_ge hj' (by omega)
    show fn12_laysLines_b7B N (fn12_laysLines_b7 N f) 110 (nI i) (nI j) M = _
    unfold fn12_laysLines_b7B
    simp only [kw_110 mi, nk_ck, mw_n mi hi, nk_bd, hle, if_false, mw_X mi hi hj', mw_Y mi hi hj', mw_S mi hi hj', nI_1]
    rw [show fn12_comes N M 110 (qY (D i).2.2.2 j) (qX (D i).2.2.2 j) (qX (D i).2.2.2 j + qS (D i).2.2.2 j) (qS (D i).2.2.2 j) = _ from e1, nk_bd, kw_110 m1, nk_ck, mw_Y m1 hi hj', nk_bd, kw_110 m1, nk_ck, show fn12_comes N M1 110 (qY (D i).2.2.2 j + qS (D i).2.2.2 j) (qX (D i).2.2.2 j) (qX (D i).2.2.2 j + qS (D i).2.2.2 j) (-qS (D i).2.2.2 j) = _ from e2, nk_bd]
    exact e3
theorem ll_ok {N : Nat} (hN : 100000 ≤ N) {m i : Nat} {D : Nat → Rc} (hi : i < m) {w h : Int} (g : Geo w h (D i).2.2.2) {M : am_Mem} (mi : ModI M m D) : ∃ M', fn12_laysLines N M 110 (nI i) = some ((), M') ∧ Fs mW M M' ∧ (∀ i, ¬ i = 47 → am_I M' 110 i = am_I M 110 i) ∧ LmC M' (lnS (D i).2.2.2) := by
  have hl := g.2.1
  have f0 : Fs mW M (am_wI M 110 47 0) := fs_wI _ _ _ (by decide)
  obtain ⟨M', e, f1, d1, c1⟩ := ll_loop hN hi g (D i).2.2.2.length 0 N (am_wI M 110 47 0) [] (by omega) (by omega) (modI_fs f0 (by decide) (rI_ix _ _ _ (by decide)) mi) ⟨rI_eq _ _ _ _, fun i h => absurd h (Nat.not_lt_zero i)⟩ ⟨List.Pairwise.nil, fun t ht => absurd ht List.not_mem_nil⟩ (eqv_refl _) (Nat.le_refl _)
  refine ⟨M', ?_, fs_trans f0 f1, fun i hi => by rw [d1 i hi, rI_ix _ _ _ hi], c1⟩
  unfold fn12_laysLines fn12_laysLines_b0
  rw [kw_110 mi, nk_ck]
  exact e
theorem inv_mW {M M' : am_Mem} {told m : Nat} {D : Nat → Rc} (h : InvAt M told m D) (f : Fs mW M M') (d : ∀ i, ¬ i = 47 → ¬ i = 0 → am_I M' 110 i = am_I M 110 i) : InvAt M' told m D :=
  inv_scr h (fs_fr f) (by decide +kernel) (by rw [fs_I f (by decide)]) (d 2 (by decide) (by decide)) (d 18 (by decide) (by decide)) (d 19 (by decide) (by decide)) (d 40 (by decide) (by decide)) (d 42 (by decide) (by decide))
theorem sh97 : ∀ q ∈ sh_Rl, ¬ (q.1 = 97 ∧ q.2.1 = 5) := by decide +kernel
theorem shp_97 {M : am_Mem} (s : Shp M) (t : Nat) : Shp (am_wR M 97 5 t) := by
  refine ⟨s.1, s.2.1, fun q hq => ?_⟩
  have := sh97 q hq
  by_cases e : q.1 = 97
  · have h5 : ¬ q.2.1 = 5 := fun e5 => this ⟨e, e5⟩
    rw [e, rR_ix _ _ _ h5, ← e]
    exact s.2.2 q hq
  · rw [rR_ne _ _ _ e]
    exact s.2.2 q hq
theorem ltr_of {M : am_Mem} {T : List Ln} (c : LcC M T) : LtR M T :=
  ⟨c.1, fun k h => ⟨congrArg (fun x : Ln => x.1) (c.2 k h), congrArg (fun x : Ln => x.2.1) (c.2 k h), congrArg (fun x : Ln => x.2.2.1) (c.2 k h), congrArg (fun x : Ln => x.2.2.2) (c.2 k h)⟩⟩
theorem ltr_to {M : am_Mem} {T : List Ln} (c : LtR M T) : LcC M T :=
  ⟨c.1, fun k h => by
    obtain ⟨a, b, d, e⟩ := c.2 k h
    exact Prod.ext a (Prod.ext b (Prod.ext d e))⟩
theorem inv_lin {M M1 : am_Mem} {told m t : Nat} {D : Nat → Rc} {q : Rc} (h : InvAt M told m D) (f : Fs lW (am_wR M 97 5 t) M1) (tq : TilR M1 t q) (c : LtR M1 (lnS q.2.2.2)) : InvAt M1 told m D := by
  obtain ⟨s, tap, pag, lin, ⟨u, u1, u2, u3⟩, t6, g40, g18, sh, k1, k2⟩ := h
  have dy : Dyn M M1 := dyn_trans (dyn_wR _ _ (by decide)) (fs_dyn f lW_le)
  have fI : ∀ a, a ∉ lW → am_I M1 a = am_I M a := fun a h1 => fs_I f h1
  have fJ : ∀ a, a ∉ lW → am_J M1 a = am_J M a := fun a h1 => fs_J f h1
  have fR : ∀ a, ¬ a = 97 → am_R M1 a = am_R M a := fun a ha => by rw [f.2.2.2.1, rR_ne _ _ _ ha]
  have tol : TolF M M1 := ⟨fI 121 (by decide), fI 122 (by decide), fI 123 (by decide), fI 125 (by decide), fI 126 (by decide), fJ 127 (by decide), fJ 128 (by decide), fJ 129 (by decide)⟩
  refine ⟨fs_shp f (shp_97 s t), tapr_fr (by rw [fI 2 (by decide)]) (by rw [fI 110 (by decide)]) (fI 3 (by decide)) (fI 111 (by decide)) tap, pagr_fr (by rw [fI 102 (by decide)]) (by rw [fI 110 (by decide)]) (fI 103 (by decide)) (fI 135 (by decide)) pag, ?_, ⟨u, u1, by rw [fI 1 (by decide)]; exact u2, by rw [fI 110 (by decide)]; exact u3⟩, t6, by rw [fI 110 (by decide)]; exact g40, by rw [fI 110 (by decide)]; exact g18, ?_, ?_, ?_⟩
  · intro _
    have e : am_R M1 97 5 = t := by rw [f.2.2.2.1, rR_eq]
    rw [e]
    exact ⟨q, tq, c⟩
  · exact shr_fr dy tol (fR _ (by decide)) (by rw [fI (104 + 2 * 0) (by decide)]) (fI 117 (by decide)) sh
  · exact kepr_fr dy tol (fR _ (by decide)) (fI (104 + 2 * 1) (by decide)) (fI 118 (by decide)) (fI 119 (by decide)) (fI 120 (by decide)) k1
  · exact kepr_fr dy tol (fR _ (by decide)) (fI (104 + 2 * 2) (by decide)) (fI 118 (by decide)) (fI 119 (by decide)) (fI 120 (by decide)) k2
theorem bd_ok {N : Nat} (hN : 100000 ≤ N) {M : am_Mem} {told m i : Nat} {D : Nat → Rc} (h : InvAt M told m D) (hi : i < m) : ∃ M1, fn2_build N M 97 (am_R M 105 i) = some ((), M1) ∧ InvAt M1 told m D ∧ LcC M1 (lnS (D i).2.2.2) ∧ TilR M1 (am_R M 105 i) (D i) := by
  have s := i_shp h
  have t := i_til h hi
  have hl := i_len h hi
  unfold fn2_build fn2_build_b0
  rw [nk_k, sk97 s, nk_dd]
  by_cases e : am_R M 105 i = am_R M 97 5
  · rw [if_pos e]
    refine ⟨M, rfl, h, ?_, t⟩
    obtain ⟨q, a, b⟩ := h.2.2.2.1 (by rw [← e]; exact tilr_ne t)
    rw [← e] at a
    rw [tilr_uniq t a]
    exact ltr_to b
  · rw [if_neg e]
    have s0 := shp_97 s (am_R M 105 i)
    have f0 : Fs lW (am_wR M 97 5 (am_R M 105 i)) (am_wI (am_wR M 97 5 (am_R M 105 i)) 97 4 0) := fs_wI _ _ _ (by decide)
    have t0 : TilR (am_wI (am_wR M 97 5 (am_R M 105 i)) 97 4 0) (am_R M 105 i) (D i) := tilr_dyn (dyn_trans (dyn_wR _ _ (by decide)) (fs_dyn f0 lW_le)) t
    obtain ⟨M1, e1, f1, c1⟩ := bd_1 hN hl (D i).2.2.2.length 0 N _ (by omega) (by omega) (fs_shp f0 s0) t0 ⟨rI_eq _ _ _ _, fun k hk => absurd hk (Nat.not_lt_zero k)⟩
    have t1 := tilr_dyn (fs_dyn f1 lW_le) t0
    exact ⟨M1, e1, inv_lin h (fs_trans f0 f1) t1 (ltr_of c1), c1, t1⟩
theorem lnS_len {L : List Sq} (hl : L.length ≤ 40) : (lnS L).length ≤ 80 := by
  have h1 := (lowsU_sd L L.length).2
  rw [lowsU_all] at h1
  rw [lnS_mrg]
  revert h1
  cases lnAll L with
  | nil => intro _; exact Nat.zero_le _
  | cons a l =>
    intro h1
    have := lnMrg_len l a
    have h2 : l.length + 1 = L.length + L.length := h1
    show (lnMrg a l).length ≤ 80
    omega
theorem ok_lines {N : Nat} (hN : 100000 ≤ N) : OK_lines N Inv := by
  intro M x ⟨told, m, D, h⟩
  have h' := inv_thr h 0
  have hm := i_m h
  have s := i_shp h
  rcases pk_ix2 x (n := m) (by omega) with hx | ⟨i, hi, rfl⟩
  · refine ⟨-1, M, am_wI M 110 0 0, ?_, sk110 s, ?_, told, m, D, h'⟩
    · unfold fn11_lines fn11_lines_b0
      rw [cf_no h hx]
      rfl
    · unfold fn12_lines fn12_lines_b0
      rw [k_110 h, mi_no h' hx]
      rfl
  have t := i_til h hi
  rcases good_f (i_good h hi) with ⟨a, b⟩ | ⟨a, geo⟩
  · refine ⟨-2, M, am_wI M 110 0 0, ?_, sk110 s, ?_, told, m, D, h'⟩
    · unfold fn11_lines fn11_lines_b0 fn11_lines_b20 fn11_refusalFor fn11_refusalFor_b0 fn11_refusalFor_b10
      rw [cf_yes h hi]
      simp only [tilr_ne t, k_til t, nk_ck, if_false]
      rw [t.2.1.1, a]
      rfl
    · unfold fn12_lines fn12_lines_b0
      rw [k_110 h, mi_yes h' hi, nk_ck, nk_bd]
      simp only [z_1, if_false]
      rw [k_110w h, mv_fail h' hi, a]
      rfl
  obtain ⟨M1, e1, h1, c1, t1⟩ := bd_ok hN h hi
  have s1 := i_shp h1
  have h1' := inv_thr h1 0
  obtain ⟨M2, e2, f2, d2, c2⟩ := ll_ok hN hi geo (modI_inv h1')
  have h2 := inv_mW h1' f2 (fun i a _ => d2 i a)
  refine ⟨nI (lnS (D i).2.2.2).length, M1, M2, ?_, sk110 s1, ?_, told, m, D, h2⟩
  · unfold fn11_lines fn11_lines_b0
    rw [cf_yes h hi, if_neg (tilr_ne t), k_til t, nk_ck, t.2.1.1, a, if_pos rfl, nk_k, sk1 s, nk_dd, sr1_6 s, nk_k, sk97 s, nk_dd, e1, nk_bd, nk_k, sk1 s1, nk_dd, sr1_6 s1, nk_k, sk97 s1, nk_dd, c1.1]
  · unfold fn12_lines fn12_lines_b0
    rw [k_110 h1, nk_ck, mi_yes h1' hi, nk_bd, if_neg z_1, k_110w h1, nk_ck, mv_fail h1' hi, nk_bd, a, if_pos rfl, k_110w h1, nk_ck, e2, nk_bd, k_110 h2, nk_ck, c2.1]
