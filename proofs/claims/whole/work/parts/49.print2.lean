def sgP (L : List Sq) (k : Nat) : List Int32 := if bgB L k = true then (if k = 0 then [] else [bt 41]) ++ [bt 40] else [bt 32]
def sqP (L : List Sq) (k : Nat) : List Int32 := sgP L k ++ dgs (szN L k) (lgD (szN L k) 9)
def outP (L : List Sq) : Nat → List Int32
  | 0 => []
  | j + 1 => outP L j ++ sqP L j
theorem bgB_0 (L : List Sq) : bgB L 0 = true := rfl
theorem sgP_len (L : List Sq) (k : Nat) : (sgP L k).length + (if k = 0 then 1 else 0) ≤ 2 := by
  unfold sgP
  by_cases h : bgB L k = true
  · rw [if_pos h]
    by_cases h0 : k = 0
    · rw [if_pos h0, if_pos h0]; exact Nat.le_refl _
    · rw [if_neg h0, if_neg h0]; exact Nat.le_refl _
  · have h0 : ¬ k = 0 := fun e => h (by rw [e]; exact bgB_0 L)
    rw [if_neg h, if_neg h0]
    exact (by decide : 1 + 0 ≤ 2)
theorem outP_len (L : List Sq) : ∀ j, (outP L j).length ≤ 12 * j ∧ (1 ≤ j → (outP L j).length + 1 ≤ 12 * j)
  | 0 => ⟨Nat.le_refl _, fun h => by omega⟩
  | j + 1 => by
    have ih := outP_len L j
    have h1 := sgP_len L j
    have h2 := lgD_le (szN L j) 9
    have e : (outP L (j + 1)).length = (outP L j).length + ((sgP L j).length + (lgD (szN L j) 9 + 1)) := by
      show (outP L j ++ (sgP L j ++ dgs (szN L j) (lgD (szN L j) 9))).length = _
      rw [List.length_append, List.length_append, dgs_len]
    rw [e]
    by_cases h0 : j = 0
    · subst h0
      rw [if_pos rfl] at h1
      have : (outP L 0).length = 0 := rfl
      exact ⟨by omega, fun _ => by omega⟩
    · rw [if_neg h0] at h1
      have := ih.2 (by omega)
      exact ⟨by omega, fun _ => by omega⟩
theorem wr_c {N : Nat} (hN : 100000 ≤ N) {t : Nat} {q : Rc} {w h : Int} (g : Geo w h q.2.2.2) : ∀ k j fuel M, j + k = q.2.2.2.length → k < fuel → Shp M → TilR M t q → PgC M (outP q.2.2.2 j) → ∃ M', fn7_write_b7 N fuel 102 t (nI j) M = some ((), M') ∧ Fs [102, 103] M M' ∧ PgC M' (outP q.2.2.2 q.2.2.2.length ++ [bt 41]) := by
  have hl := g.2.1
  have h1 := g.1
  intro k
  induction k with
  | zero =>
    intro j fuel M hj hf s tq c
    obtain ⟨f, rfl⟩ : ∃ f, fuel = f + 1 := ⟨fuel - 1, by omega⟩
    have : j = q.2.2.2.length := by omega
    subst this
    have ol := (outP_len q.2.2.2 q.2.2.2.length).2 h1
    obtain ⟨M', e1, f1, c1⟩ := pg_put s c (by omega) 41
    refine ⟨M', ?_, f1, c1⟩
    show fn7_write_b7B N (fn7_write_b7 N f) 102 t (nI _) M = _
    unfold fn7_write_b7B
    rw [k_til tq, nk_ck, tq.2.1.2.1, if_pos (nI_le (Nat.le_refl _) (by omega)), nk_k, sk102 s, nk_dd, e1, nk_bd]
  | succ k ih =>
    intro j fuel M hj hf s tq c
    obtain ⟨f, rfl⟩ : ∃ f, fuel = f + 1 := ⟨fuel - 1, by omega⟩
    have hj' : j < q.2.2.2.length := by omega
    have ol := (outP_len q.2.2.2 j).1
    obtain ⟨es, hs1⟩ := szN_eq g hj'
    have w102 : ∀ a ∈ [102, 103], a ≤ 141 := by decide
    -- the number
    have num : ∀ M1, Shp M1 → TilR M1 t q → Fs [102, 103] M M1 → PgC M1 (outP q.2.2.2 j ++ sgP q.2.2.2 j) → ∃ M', fn7_write_b48 N (fn7_write_b7 N f) 102 t (nI j) M1 = some ((), M') ∧ Fs [102, 103] M M' ∧ PgC M' (outP q.2.2.2 q.2.2.2.length ++ [bt 41]) := by
      intro M1 s1 t1 f1 c1
      have sl := sgP_len q.2.2.2 j
      have : (outP q.2.2.2 j ++ sgP q.2.2.2 j).length + 9 < 480 := by
        rw [List.length_append]
        split at sl <;> omega
      obtain ⟨M2, e2, f2, c2⟩ := pg_dg (N := N) (szN_lt q.2.2.2 j) hs1 9 N M1 _ (by omega) (by omega) s1 c1 this
      rw [List.append_assoc] at c2
      obtain ⟨M', e3, f3, c3⟩ := ih (j + 1) f M2 (by omega) (by omega) (fs_shp f2 s1) (tilr_dyn (fs_dyn f2 w102) t1) c2
      refine ⟨M', ?_, fs_trans (fs_trans f1 f2) f3, c3⟩
      obtain ⟨tK, ⟨tf, t4, t5, t6⟩, ⟨_, _, k7, l7⟩, ⟨_, _, k8, l8⟩, ⟨_, _, k9, l9⟩, x7, x8, x9⟩ := t1
      unfold fn7_write_b48 fn7_putNumber fn7_putNumber_b0
      rw [nk_k, tK.2.2, nk_dd, nk_k, k9, nk_dd, l9, nk_in hj' (by omega), nk_ck, nk_k, sk102 s1, nk_dd, nI_clamp (by omega), x9 j hj', es, show fn7_putNumber_b3 N N 102 (nI (szN q.2.2.2 j)) 1000000000 M1 = _ from e2, nk_bd, nI_1]
      exact e3
    show ∃ M', fn7_write_b7B N (fn7_write_b7 N f) 102 t (nI j) M = _ ∧ _
    unfold fn7_write_b7B
    rw [k_til tq, nk_ck, tq.2.1.2.1, if_neg (nI_ge hj' (by omega)), c_starts tq hl hj', nk_bd]
    unfold sgP at num
    by_cases hb : bgB q.2.2.2 j = true
    · rw [if_pos hb] at num
      rw [if_pos hb, if_neg z_1]
      unfold fn7_write_b42
      by_cases h0 : j = 0
      · rw [if_pos h0] at num
        subst h0
        obtain ⟨M1, e1, f1, c1⟩ := pg_put s c (by omega) 40
        obtain ⟨M', e2, f2, c2⟩ := num M1 (fs_shp f1 s) (tilr_dyn (fs_dyn f1 w102) tq) f1 c1
        refine ⟨M', ?_, f2, c2⟩
        rw [if_pos (show nI 0 ≤ 0 from by decide), nk_k, sk102 s, nk_dd, e1, nk_bd]
        exact e2
      · rw [if_neg h0] at num
        obtain ⟨M0, e0, f0, c0⟩ := pg_put s c (by omega) 41
        have s0 := fs_shp f0 s
        obtain ⟨M1, e1, f1, c1⟩ := pg_put s0 c0 (by rw [List.length_append]; show (outP q.2.2.2 j).length + 1 < 480; omega) 40
        rw [List.append_assoc] at c1
        obtain ⟨M', e2, f2, c2⟩ := num M1 (fs_shp f1 s0) (tilr_dyn (fs_dyn f1 w102) (tilr_dyn (fs_dyn f0 w102) tq)) (fs_trans f0 f1) c1
        refine ⟨M', ?_, f2, c2⟩
        rw [if_neg (nI_nle (by omega) (by omega)), nk_k, sk102 s, nk_dd, e0, nk_bd, nk_k, sk102 s0, nk_dd, e1, nk_bd]
        exact e2
    · rw [if_neg hb] at num
      obtain ⟨M1, e1, f1, c1⟩ := pg_put s c (by omega) 32
      obtain ⟨M', e2, f2, c2⟩ := num M1 (fs_shp f1 s) (tilr_dyn (fs_dyn f1 w102) tq) f1 c1
      refine ⟨M', ?_, f2, c2⟩
      rw [if_neg hb, if_pos rfl, nk_k, sk102 s, nk_dd, e1, nk_bd]
      exact e2
section
variable {M : am_Mem} {m : Nat} {D : Nat → Rc}
theorem mw_beside (h : ModI M m D) {i k : Nat} (hi : i < m) (hk : k < (D i).2.2.2.length) : fn12_isBeside M 110 (nI i) (nI k) = some (if bgB (D i).2.2.2 k = true then 0 else 1, M) := by
  have hl := good_len (h.2.2.2 i hi).2
  unfold fn12_isBeside fn12_isBeside_b0 fn12_isBeside_b64 fn12_isBeside_b65 bgB
  by_cases h0 : k = 0
  · subst h0
    rfl
  · have e : ∀ a : Nat, nI (a + k) - 1 = nI (a + (k - 1)) := fun a => by
      rw [show (1 : Int32) = nI 1 from rfl, pk_sub (by omega)]
      congr 1
      omega
    have e4 : (4 : Int32) + nI k - 1 = 4 + nI (k - 1) := by rw [lit_add 4 k, e 4, ← lit_add 4 (k - 1)]
    have e44 : (44 : Int32) + nI k - 1 = 44 + nI (k - 1) := by rw [lit_add 44 k, e 44, ← lit_add 44 (k - 1)]
    have e84 : (84 : Int32) + nI k - 1 = 84 + nI (k - 1) := by rw [lit_add 84 k, e 84, ← lit_add 84 (k - 1)]
    rw [if_neg (nI_nle (by omega) (by omega)), e4, e44, e84, kw_110 h, nk_ck, mw_Y h hi hk, nk_bd, kw_110 h, nk_ck, mw_Y h hi (by omega), nk_bd, kw_110 h, nk_ck, mw_X h hi hk, nk_bd, kw_110 h, nk_ck, mw_X h hi (by omega), nk_bd, kw_110 h, nk_ck, mw_S h hi (by omega), nk_bd, decide_eq_false h0]
    by_cases h1 : qY (D i).2.2.2 k = qY (D i).2.2.2 (k - 1)
    · rw [if_pos h1, decide_eq_true h1]
      by_cases h2 : qX (D i).2.2.2 k = qX (D i).2.2.2 (k - 1) + qS (D i).2.2.2 (k - 1)
      · rw [if_pos h2, decide_eq_true h2]; rfl
      · rw [if_neg h2, decide_eq_false h2]; rfl
    · rw [if_neg h1, decide_eq_false h1]; rfl
theorem modI_pg {M' : am_Mem} (f : Fs [110, 135] M M') (d : ∀ i, ¬ i = 42 → am_I M' 110 i = am_I M 110 i) (h : ModI M m D) : ModI M' m D := modI_fs f (by decide) (d 18 (by decide)) h
end
theorem wr_m {N : Nat} (hN : 100000 ≤ N) {m i : Nat} {D : Nat → Rc} (hi : i < m) {w h : Int} (g : Geo w h (D i).2.2.2) : ∀ k j fuel M, j + k = (D i).2.2.2.length → k < fuel → ModI M m D → PmC M (outP (D i).2.2.2 j) → ∃ M', fn12_print_b33 N fuel 110 (nI i) (nI j) M = some (nI (outP (D i).2.2.2 (D i).2.2.2.length ++ [bt 41]).length, M') ∧ Fs [110, 135] M M' ∧ PmC M' (outP (D i).2.2.2 (D i).2.2.2.length ++ [bt 41]) ∧ ∀ i, ¬ i = 42 → am_I M' 110 i = am_I M 110 i := by
  have hl := g.2.1
  have h1 := g.1
  have hz := g.2.2.1
  intro k
  induction k with
  | zero =>
    intro j fuel M hj hf mi c
    obtain ⟨f, rfl⟩ : ∃ f, fuel = f + 1 := ⟨fuel - 1, by omega⟩
    have : j = (D i).2.2.2.length := by omega
    subst this
    have ol := (outP_len (D i).2.2.2 (D i).2.2.2.length).2 h1
    obtain ⟨M', e1, f1, c1, d1⟩ := pm_put mi.1 c (by omega) 41
    refine ⟨M', ?_, f1, c1, d1⟩
    show fn12_print_b33B N (fn12_print_b33 N f) 110 (nI i) (nI _) M = _
    unfold fn12_print_b33B
    rw [kw_110 mi, nk_ck, mw_n mi hi, nk_bd, if_pos (nI_le (Nat.le_refl _) (by omega)), kw_110 mi, nk_ck, e1, nk_bd, nk_k, sk110 (fs_shp f1 mi.1), nk_dd, c1.1]
  | succ k ih =>
    intro j fuel M hj hf mi c
    obtain ⟨f, rfl⟩ : ∃ f, fuel = f + 1 := ⟨fuel - 1, by omega⟩
    have hj' : j < (D i).2.2.2.length := by omega
    have ol := (outP_len (D i).2.2.2 j).1
    obtain ⟨es, hs1⟩ := szN_eq g hj'
    have hsz : szN (D i).2.2.2 j ≤ 1000000000 := by
      obtain ⟨_, _, a3, a4, _⟩ := geo_at g hj'
      have := (geo_at g hj').1
      unfold szN
      omega
    have num : ∀ M1 c0, ModI M1 m D → Fs [110, 135] M M1 → (∀ i, ¬ i = 42 → am_I M1 110 i = am_I M 110 i) → ∀ P0 : List Int32, PmC M1 P0 → P0 ++ [bt c0] = outP (D i).2.2.2 j ++ sgP (D i).2.2.2 j → ∃ M', fn12_print_b79 N (fn12_print_b33 N f) 110 c0 110 (nI i) (nI j) M1 = some (nI (outP (D i).2.2.2 (D i).2.2.2.length ++ [bt 41]).length, M') ∧ Fs [110, 135] M M' ∧ PmC M' (outP (D i).2.2.2 (D i).2.2.2.length ++ [bt 41]) ∧ ∀ i, ¬ i = 42 → am_I M' 110 i = am_I M 110 i := by
      intro M1 c0 m1 f1 d1 P0 c1 hP
      have sl := sgP_len (D i).2.2.2 j
      have hPl : P0.length + 1 = (outP (D i).2.2.2 j).length + (sgP (D i).2.2.2 j).length := by
        have := congrArg List.length hP
        rw [List.length_append, List.length_append] at this
        exact this
      have hb : P0.length + 1 + 9 < 480 := by
        split at sl <;> omega
      obtain ⟨M2, e2, f2, c2, d2⟩ := pm_put m1.1 c1 (by omega) c0
      have m2 := modI_pg f2 d2 m1
      have hlg := lgD_le (szN (D i).2.2.2 j) 9
      obtain ⟨M3, e3, f3, c3, d3⟩ := pm_dg (N := N) (szN_lt (D i).2.2.2 j) (lgD (szN (D i).2.2.2 j) 9) N M2 _ hlg (by omega) m2.1 c2 (by rw [List.length_append]; show P0.length + 1 + _ < 480; omega)
      rw [hP, List.append_assoc] at c3
      have m3 := modI_pg f3 d3 m2
      obtain ⟨M', e4, f4, c4, d4⟩ := ih (j + 1) f M3 (by omega) (by omega) m3 c3
      refine ⟨M', ?_, fs_trans (fs_trans (fs_trans f1 f2) f3) f4, c4, fun i hi => (d4 i hi).trans ((d3 i hi).trans ((d2 i hi).trans (d1 i hi)))⟩
      have lg := pm_lg (N := N) (M := M2) hsz 9 0 N (by omega) (by omega) (Or.inl rfl)
      unfold fn12_print_b79 fn12_printsNumber fn12_printsNumber_b0
      rw [nk_k, sk110 m1.1, nk_dd, e2, nk_bd, nk_k, sk110 m2.1, nk_dd, mw_S m2 hi hj', nk_bd, nk_k, sk110 m2.1, nk_dd, es, show fn12_printsNumber_b2 N N 110 (nI (szN (D i).2.2.2 j)) 1 M2 = _ from lg, e3, nk_bd, nI_1]
      exact e4
    show ∃ M', fn12_print_b33B N (fn12_print_b33 N f) 110 (nI i) (nI j) M = _ ∧ _
    unfold fn12_print_b33B fn12_print_b62
    rw [kw_110 mi, nk_ck, mw_n mi hi, nk_bd, if_neg (nI_ge hj' (by omega))]
    unfold sgP at num
    by_cases hb : bgB (D i).2.2.2 j = true
    · rw [if_pos hb] at num
      by_cases h0 : j = 0
      · rw [if_pos h0] at num
        subst h0
        rw [if_pos (show nI 0 ≤ 0 from by decide), kw_110 mi, nk_ck, mw_beside mi hi hj', nk_bd, if_pos hb, if_pos rfl]
        exact num M 40 mi (fs_refl _ _) (fun _ _ => rfl) _ c rfl
      · rw [if_neg h0] at num
        obtain ⟨M0, e0, f0, c0, d0⟩ := pm_put mi.1 c (by omega) 41
        have m0 := modI_pg f0 d0 mi
        rw [if_neg (nI_nle (by omega) (by omega)), kw_110 mi, nk_ck, mw_beside mi hi hj', nk_bd, if_pos hb, if_pos rfl, kw_110 mi, nk_ck, e0, nk_bd, kw_110 m0, nk_ck, mw_beside m0 hi hj', nk_bd, if_pos hb, if_pos rfl]
        exact num M0 40 m0 f0 d0 _ c0 (by rw [List.append_assoc])
    · rw [if_neg hb] at num
      have h0 : ¬ j = 0 := fun e => hb (by rw [e]; exact bgB_0 _)
      rw [if_neg (nI_nle (by omega) (by omega)), kw_110 mi, nk_ck, mw_beside mi hi hj', nk_bd, if_neg hb, if_neg z_1, kw_110 mi, nk_ck, mw_beside mi hi hj', nk_bd, if_neg hb, if_neg z_1]
      exact num M 32 mi (fs_refl _ _) (fun _ _ => rfl) _ c rfl
theorem inv_pag {M M1 M2 : am_Mem} {told m : Nat} {D : Nat → Rc} (h : InvAt M told m D) (f1 : Fs [102, 103] M M1) (f2 : Fs [110, 135] M1 M2) (d : ∀ i, ¬ i = 0 → ¬ i = 42 → am_I M2 110 i = am_I M1 110 i) (p : PagR M2) : InvAt M2 told m D := by
  obtain ⟨s, tap, pag, lin, ⟨u, u1, u2, u3⟩, t6, g40, g18, sh, k1, k2⟩ := h
  have dy := dyn_trans (fs_dyn f1 (by decide)) (fs_dyn f2 (by decide))
  have fI : ∀ a, a ∉ [102, 103] → a ∉ [110, 135] → am_I M2 a = am_I M a := fun a h1 h2 => (fs_I f2 h2).trans (fs_I f1 h1)
  have fJ : ∀ a, a ∉ [102, 103] → a ∉ [110, 135] → am_J M2 a = am_J M a := fun a h1 h2 => (fs_J f2 h2).trans (fs_J f1 h1)
  have fR : am_R M2 = am_R M := f2.2.2.2.1.trans f1.2.2.2.1
  have f110 : ∀ i, ¬ i = 0 → ¬ i = 42 → am_I M2 110 i = am_I M 110 i := fun i h1 h2 => by rw [d i h1 h2, fs_I f1 (by decide)]
  have tol : TolF M M2 := ⟨fI 121 (by decide) (by decide), fI 122 (by decide) (by decide), fI 123 (by decide) (by decide), fI 125 (by decide) (by decide), fI 126 (by decide) (by decide), fJ 127 (by decide) (by decide), fJ 128 (by decide) (by decide), fJ 129 (by decide) (by decide)⟩
  refine ⟨fs_shp f2 (fs_shp f1 s), tapr_fr (by rw [fI 2 (by decide) (by decide)]) (f110 2 (by decide) (by decide)) (fI 3 (by decide) (by decide)) (fI 111 (by decide) (by decide)) tap, p, linr_fr dy (by rw [fR]) (by rw [fI 97 (by decide) (by decide)]) (fI 98 (by decide) (by decide)) (fI 99 (by decide) (by decide)) (fI 100 (by decide) (by decide)) (fI 101 (by decide) (by decide)) lin, ⟨u, u1, by rw [fI 1 (by decide) (by decide)]; exact u2, by rw [f110 19 (by decide) (by decide)]; exact u3⟩, t6, by rw [f110 40 (by decide) (by decide)]; exact g40, by rw [f110 18 (by decide) (by decide)]; exact g18, ?_, ?_, ?_⟩
  · exact shr_fr dy tol (by rw [fR]) (by rw [fI (104 + 2 * 0) (by decide) (by decide)]) (fI 117 (by decide) (by decide)) sh
  · exact kepr_fr dy tol (by rw [fR]) (fI (104 + 2 * 1) (by decide) (by decide)) (fI 118 (by decide) (by decide)) (fI 119 (by decide) (by decide)) (fI 120 (by decide) (by decide)) k1
  · exact kepr_fr dy tol (by rw [fR]) (fI (104 + 2 * 2) (by decide) (by decide)) (fI 118 (by decide) (by decide)) (fI 119 (by decide) (by decide)) (fI 120 (by decide) (by decide)) k2
theorem ok_print {N : Nat} (hN : 100000 ≤ N) : OK_print N Inv := by
  intro M x ⟨told, m, D, h⟩
  have h' := inv_thr h 0
  have hm := i_m h
  have s := i_shp h
  rcases pk_ix2 x (n := m) (by omega) with hx | ⟨i, hi, rfl⟩
  · refine ⟨-1, M, am_wI M 110 0 0, ?_, sk110 s, ?_, told, m, D, h'⟩
    · unfold fn11_print fn11_print_b0
      rw [cf_no h hx]
      rfl
    · unfold fn12_print fn12_print_b0
      rw [k_110 h, mi_no h' hx]
      rfl
  have t := i_til h hi
  have hl := i_len h hi
  rcases good_f (i_good h hi) with ⟨a, b⟩ | ⟨a, geo⟩
  · refine ⟨-2, M, am_wI M 110 0 0, ?_, sk110 s, ?_, told, m, D, h'⟩
    · unfold fn11_print fn11_print_b0 fn11_print_b20 fn11_refusalFor fn11_refusalFor_b0 fn11_refusalFor_b10
      rw [cf_yes h hi]
      simp only [tilr_ne t, k_til t, nk_ck, if_false]
      rw [t.2.1.1, a]
      rfl
    · unfold fn12_print fn12_print_b0
      rw [k_110 h, mi_yes h' hi, nk_ck, nk_bd]
      simp only [z_1, if_false]
      rw [k_110w h, mv_fail h' hi, a]
      rfl
  have f0 : Fs [102, 103] M (am_wI M 102 1 0) := fs_wI _ _ _ (by decide)
  have s0 := fs_shp f0 s
  obtain ⟨M1, e1, f1, c1⟩ := wr_c hN geo (D i).2.2.2.length 0 N (am_wI M 102 1 0) (by omega) (by omega) s0 (tilr_dyn (fs_dyn f0 (by decide)) t) ⟨rI_eq _ _ _ _, fun k hk => absurd hk (Nat.not_lt_zero k)⟩
  have f01 := fs_trans f0 f1
  have s1 := fs_shp f1 s0
  have mi1 : ModI M1 m D := modI_fs f01 (by decide) (by rw [fs_I f01 (by decide)]) (modI_inv h)
  have mi2 := modI_thr mi1 0
  have g0 : Fs [110, 135] M1 (am_wI (am_wI M1 110 0 0) 110 42 0) := fs_trans (fs_wI _ _ _ (by decide)) (fs_wI _ _ _ (by decide))
  have mi3 : ModI (am_wI (am_wI M1 110 0 0) 110 42 0) m D := modI_fs g0 (by decide) (by rw [rI_ix _ _ _ (by decide), rI_ix _ _ _ (by decide)]) mi1
  obtain ⟨M2, e2, f2, c2, d2⟩ := wr_m hN hi geo (D i).2.2.2.length 0 N _ (by omega) (by omega) mi3 ⟨rI_eq _ _ _ _, fun k hk => absurd hk (Nat.not_lt_zero k)⟩
  have ol := (outP_len (D i).2.2.2 (D i).2.2.2.length).2 geo.1
  have hlen : (outP (D i).2.2.2 (D i).2.2.2.length ++ [bt 41]).length ≤ 480 := by
    rw [List.length_append]
    show (outP (D i).2.2.2 (D i).2.2.2.length).length + 1 ≤ 480
    omega
  have iv : InvAt M2 told m D := inv_pag h f01 (fs_trans g0 f2) (fun j h1 h2 => by rw [d2 j h2, rI_ix _ _ _ h2, rI_ix _ _ _ h1]) (by
    refine ⟨_, hlen, ?_, c2.1, fun k hk => ?_⟩
    · rw [fs_I f2 (by decide), fs_I g0 (by decide)]; exact c1.1
    · rw [fs_I f2 (by decide), fs_I g0 (by decide), c1.2 k hk, c2.2 k hk])
  refine ⟨nI (outP (D i).2.2.2 (D i).2.2.2.length ++ [bt 41]).length, M1, M2, ?_, sk110 s1, ?_, told, m, D, iv⟩
  · unfold fn11_print fn11_print_b0 fn7_write fn7_write_b0
    rw [cf_yes h hi, if_neg (tilr_ne t), k_til t, nk_ck, t.2.1.1, a, if_pos rfl, nk_k, sk1 s, nk_dd, sr1_7 s, nk_k, sk102 s, nk_dd, nk_dd, show fn7_write_b7 N N 102 (am_R M 105 i) 0 (am_wI M 102 1 0) = _ from e1, nk_bd, nk_k, sk1 s1, nk_dd, sr1_7 s1, nk_k, sk102 s1, nk_dd, c1.1]
  · unfold fn12_print fn12_print_b0
    rw [nk_k, sk110 s1, nk_dd, mw_yes mi2 hi, nk_bd, if_neg z_1, nk_k, sk110 mi2.1, nk_dd, mw_fail mi2 hi, nk_bd, a, if_pos rfl, nk_k, sk110 mi2.1, nk_dd]
    exact e2
