/-- k rows from i on -/
def lsR (f : Nat → Ln) : Nat → Nat → List Ln
  | _, 0 => []
  | i, k + 1 => f i :: lsR f (i + 1) k
def lsP (f : Nat → Ln) : Nat → List Ln
  | 0 => []
  | n + 1 => lsP f n ++ [f n]
theorem lsP_len (f : Nat → Ln) : ∀ n, (lsP f n).length = n
  | 0 => rfl
  | n + 1 => by
    show (lsP f n ++ [f n]).length = _
    rw [List.length_append, lsP_len f n]
    rfl
theorem lsP_st (f : Nat → Ln) : ∀ n, StL f (lsP f n)
  | 0 => fun i h => absurd h (Nat.not_lt_zero i)
  | n + 1 => stl_app (lsP_st f n) (by rw [lsP_len])
theorem lsP_ext {f g : Nat → Ln} : ∀ {n}, (∀ i, i < n → f i = g i) → lsP f n = lsP g n
  | 0, _ => rfl
  | n + 1, h => by
    show lsP f n ++ [f n] = lsP g n ++ [g n]
    rw [lsP_ext (fun i hi => h i (by omega)), h n (by omega)]
theorem lsR_ext {f g : Nat → Ln} : ∀ {k i}, (∀ j, i ≤ j → f j = g j) → lsR f i k = lsR g i k
  | 0, _, _ => rfl
  | k + 1, i, h => by
    show f i :: lsR f (i + 1) k = g i :: lsR g (i + 1) k
    rw [h i (Nat.le_refl _), lsR_ext (fun j hj => h j (by omega))]
theorem lsR_len (f : Nat → Ln) : ∀ k i, (lsR f i k).length = k
  | 0, _ => rfl
  | k + 1, i => by
    show (lsR f (i + 1) k).length + 1 = _
    rw [lsR_len f k]
theorem lsR_get (f : Nat → Ln) : ∀ k i j (h : j < (lsR f i k).length), (lsR f i k)[j] = f (i + j)
  | 0, _, j, h => absurd h (Nat.not_lt_zero j)
  | k + 1, i, 0, h => rfl
  | k + 1, i, j + 1, h => by
    show (lsR f (i + 1) k)[j]'(by simpa [lsR] using h) = _
    rw [lsR_get f k (i + 1) j]
    congr 1
    omega
theorem stl_R {f : Nat → Ln} {T : List Ln} (h : StL f T) : T = lsR f 0 T.length := by
  apply List.ext_getElem
  · rw [lsR_len]
  · intro i h1 h2
    rw [lsR_get, Nat.zero_add, h i h1]
theorem lnMrg_len : ∀ (l : List Ln) (c : Ln), (lnMrg c l).length ≤ l.length + 1
  | [], c => Nat.le_refl _
  | b :: l, c => by
    unfold lnMrg
    split
    · have := lnMrg_len l (c.1, c.2.1, (if c.2.2.1 < b.2.2.1 then b.2.2.1 else c.2.2.1), c.2.2.2 + b.2.2.2)
      exact Nat.le_succ_of_le this
    · have := lnMrg_len l b
      exact Nat.succ_le_succ this
theorem mg_loop {N : Nat} {n : Nat} (hn : n ≤ 80) : ∀ k i p fuel M, i + k = n → p < i → k < fuel → Shp M → am_I M 97 4 = nI n → ∃ M', fn2_mergeSides_b4 N fuel 97 (nI p) (nI i) M = some ((), M') ∧ Fs lW M M' ∧ LcC M' (lsP (rdL M 98) p ++ lnMrg (rdL M 98 p) (lsR (rdL M 98) i k)) := by
  intro k
  induction k with
  | zero =>
    intro i p fuel M hi hp hf s h4
    obtain ⟨g, rfl⟩ : ∃ g, fuel = g + 1 := ⟨fuel - 1, by omega⟩
    refine ⟨am_wI M 97 4 (nI (p + 1)), ?_, fs_wI _ _ _ (by decide), ?_⟩
    · show fn2_mergeSides_b4B N (fn2_mergeSides_b4 N g) 97 (nI p) (nI i) M = _
      unfold fn2_mergeSides_b4B
      rw [nk_k, sk97 s, nk_dd, h4, if_pos (nI_le (by omega) (by omega)), nI_1]
    · have e : lsP (rdL M 98) p ++ lnMrg (rdL M 98 p) (lsR (rdL M 98) i 0) = lsP (rdL M 98) (p + 1) := rfl
      rw [e]
      exact ⟨by rw [rI_eq, lsP_len], by rw [rd_o (by omega)]; exact lsP_st _ _⟩
  | succ k ih =>
    intro i p fuel M hi hp hf s h4
    obtain ⟨g, rfl⟩ : ∃ g, fuel = g + 1 := ⟨fuel - 1, by omega⟩
    have hle : ¬ nI n ≤ nI i := nI_ge (by omega) (by omega)
    have hp0 : ¬ nI p < 0 := nI_pos (by omega)
    have i1 : am_in (nI i) 80 = true := nk_in (by omega) (by decide)
    have l1 : (nI i).toNatClampNeg = i := nI_clamp (by omega)
    have i2 : am_in (nI p) 80 = true := nk_in (by omega) (by decide)
    have l2 : (nI p).toNatClampNeg = p := nI_clamp (by omega)
    have a1 : am_I M 98 i = (rdL M 98 i).1 := rfl
    have a2 : am_I M 99 i = (rdL M 98 i).2.1 := rfl
    have a3 : am_I M 100 i = (rdL M 98 i).2.2.1 := rfl
    have a4 : am_I M 101 i = (rdL M 98 i).2.2.2 := rfl
    have b1 : am_I M 98 p = (rdL M 98 p).1 := rfl
    have b3 : am_I M 100 p = (rdL M 98 p).2.2.1 := rfl
    have b4 : am_I M 101 p = (rdL M 98 p).2.2.2 := rfl
    show ∃ M', fn2_mergeSides_b4B N (fn2_mergeSides_b4 N g) 97 (nI p) (nI i) M = _ ∧ _
    unfold fn2_mergeSides_b4B fn2_mergeSides_b85 fn2_mergeSides_b94
    simp (disch := decide) only [nk_k, sk97 s, sr97_0 s, sr97_1 s, sr97_2 s, sr97_3 s, sk98 s, sk99 s, sk100 s, sk101 s, sl98 s, sl99 s, sl100 s, sl101 s, eq_self, decide_true, nk_ck, h4, hle, hp0, if_false, i1, i2, l1, l2, rI_ne, a1, a2, a3, a4, b1, b3, b4, nI_1, cp_row s (show i < 80 by omega) (show p + 1 < 80 by omega), nk_bd]
    have nxt : ¬ ((rdL M 98 i).1 = (rdL M 98 p).1 ∧ ¬ (rdL M 98 p).2.2.1 < (rdL M 98 i).2.1) → ∃ M', fn2_mergeSides_b4 N g 97 (nI (p + 1)) (nI (i + 1)) (w4 M 98 (p + 1) (rdL M 98 i)) = some ((), M') ∧ Fs lW M M' ∧ LcC M' (lsP (rdL M 98) p ++ lnMrg (rdL M 98 p) (lsR (rdL M 98) i (k + 1))) := by
      intro hc
      have f0 : Fs lW M (w4 M 98 (p + 1) (rdL M 98 i)) := fs_w4 M _ _ (by decide) (by decide) (by decide) (by decide)
      obtain ⟨M', e, f1, c1⟩ := ih (i + 1) (p + 1) g _ (by omega) (by omega) (by omega) (fs_shp f0 s) (by rw [w4_o _ _ _ (by decide) (by decide) (by decide) (by decide)]; exact h4)
      refine ⟨M', e, fs_trans f0 f1, ?_⟩
      rw [rd_w4, upL_eq, lsR_ext (g := rdL M 98) (fun j hj => upL_ne _ _ (by omega))] at c1
      have e3 : lsP (upL (rdL M 98) (p + 1) (rdL M 98 i)) (p + 1) = lsP (rdL M 98) p ++ [rdL M 98 p] := by
        rw [lsP_ext (g := rdL M 98) (fun j hj => upL_ne _ _ (by omega))]
        rfl
      rw [e3, List.append_assoc] at c1
      have e4 : lnMrg (rdL M 98 p) (lsR (rdL M 98) i (k + 1)) = [rdL M 98 p] ++ lnMrg (rdL M 98 i) (lsR (rdL M 98) (i + 1) k) := by
        show lnMrg (rdL M 98 p) (rdL M 98 i :: lsR (rdL M 98) (i + 1) k) = _
        rw [lnMrg, if_neg hc]
        rfl
      rw [e4]
      exact c1
    by_cases h1 : (rdL M 98 i).1 = (rdL M 98 p).1
    · rw [if_pos h1]
      by_cases h2 : (rdL M 98 p).2.2.1 < (rdL M 98 i).2.1
      · rw [if_pos h2]
        exact nxt (fun x => x.2 h2)
      · rw [if_neg h2]
        have f0 : ∀ v u, Fs lW M (am_wI (am_wI M 100 p v) 101 p u) := fun v u => fs_trans (fs_wI _ _ _ (by decide)) (fs_wI _ _ _ (by decide))
        obtain ⟨M', e, f1, c1⟩ := ih (i + 1) p g (am_wI (am_wI M 100 p (if (rdL M 98 p).2.2.1 < (rdL M 98 i).2.2.1 then (rdL M 98 i).2.2.1 else (rdL M 98 p).2.2.1)) 101 p ((rdL M 98 p).2.2.2 + (rdL M 98 i).2.2.2)) (by omega) (by omega) (by omega) (fs_shp (f0 _ _) s) (by rw [rI_ne _ _ _ (by decide), rI_ne _ _ _ (by decide)]; exact h4)
        refine ⟨M', e, fs_trans (f0 _ _) f1, ?_⟩
        have rd : rdL (am_wI (am_wI M 100 p (if (rdL M 98 p).2.2.1 < (rdL M 98 i).2.2.1 then (rdL M 98 i).2.2.1 else (rdL M 98 p).2.2.1)) 101 p ((rdL M 98 p).2.2.2 + (rdL M 98 i).2.2.2)) 98 = upL (rdL M 98) p ((rdL M 98 p).1, (rdL M 98 p).2.1, (if (rdL M 98 p).2.2.1 < (rdL M 98 i).2.2.1 then (rdL M 98 i).2.2.1 else (rdL M 98 p).2.2.1), (rdL M 98 p).2.2.2 + (rdL M 98 i).2.2.2) := by
          funext j
          by_cases hj : j = p
          · subst hj
            rw [upL_eq]
            unfold rdL
            simp (disch := decide) only [rI_ne, rI_eq]
          · rw [upL_ne _ _ hj]
            unfold rdL
            simp (disch := first | decide | assumption) only [rI_ne, rI_ix]
        rw [rd, upL_eq, lsR_ext (g := rdL M 98) (fun j hj => upL_ne _ _ (by omega)), lsP_ext (g := rdL M 98) (fun j hj => upL_ne _ _ (by omega))] at c1
        have e4 : lnMrg (rdL M 98 p) (lsR (rdL M 98) i (k + 1)) = lnMrg ((rdL M 98 p).1, (rdL M 98 p).2.1, (if (rdL M 98 p).2.2.1 < (rdL M 98 i).2.2.1 then (rdL M 98 i).2.2.1 else (rdL M 98 p).2.2.1), (rdL M 98 p).2.2.2 + (rdL M 98 i).2.2.2) (lsR (rdL M 98) (i + 1) k) := by
          show lnMrg (rdL M 98 p) (rdL M 98 i :: lsR (rdL M 98) (i + 1) k) = _
          rw [lnMrg, if_pos ⟨h1, h2⟩]
        rw [e4]
        exact c1
    · rw [if_neg h1]
      exact nxt (fun x => h1 x.1)
def mrgL : List Ln → List Ln
  | [] => []
  | a :: l => lnMrg a l
theorem lnS_mrg (L : List Sq) : lnS L = mrgL (lnAll L) := by
  unfold lnS
  cases lnAll L <;> rfl
theorem mg_ok {N : Nat} (hN : 100000 ≤ N) {M : am_Mem} {T : List Ln} (s : Shp M) (c : LcC M T) (hl : T.length ≤ 80) : ∃ M', fn2_mergeSides N M 97 = some ((), M') ∧ Fs lW M M' ∧ LcC M' (mrgL T) := by
  obtain ⟨g, hg⟩ : ∃ g, N = g + 1 := ⟨N - 1, by omega⟩
  have e0 : fn2_mergeSides N M 97 = fn2_mergeSides_b4B N (fn2_mergeSides_b4 N g) 97 (-1) 0 M := by
    show fn2_mergeSides_b4 N N 97 (-1) 0 M = _
    rw [show fn2_mergeSides_b4 N N = fn2_mergeSides_b4 N (g + 1) from by rw [← hg]]
    rfl
  rw [e0]
  unfold fn2_mergeSides_b4B fn2_mergeSides_b85 fn2_mergeSides_b94
  match T, c, hl with
  | [], c, _ =>
    refine ⟨am_wI M 97 4 0, ?_, fs_wI _ _ _ (by decide), rI_eq _ _ _ _, fun i h => absurd h (Nat.not_lt_zero i)⟩
    rw [nk_k, sk97 s, nk_dd, c.1, if_pos (show nI ([] : List Ln).length ≤ 0 from by decide)]
    rfl
  | a :: l, c, hl =>
    have hl' : l.length + 1 ≤ 80 := hl
    have f0 : Fs lW M (w4 M 98 0 (rdL M 98 0)) := fs_w4 M _ _ (by decide) (by decide) (by decide) (by decide)
    obtain ⟨M', e, f1, c1⟩ := mg_loop (N := N) hl l.length 1 0 g (w4 M 98 0 (rdL M 98 0)) (by show 1 + l.length = l.length + 1; omega) (by omega) (by omega) (fs_shp f0 s) (by rw [w4_o _ _ _ (by decide) (by decide) (by decide) (by decide)]; exact c.1)
    refine ⟨M', ?_, fs_trans f0 f1, ?_⟩
    · rw [nk_k, sk97 s, nk_dd, c.1, if_neg (show ¬ nI (a :: l).length ≤ 0 from nI_nle (Nat.succ_pos _) (by show l.length + 1 < _; omega)), if_pos (show (-1 : Int32) < 0 from by decide), show (-1 : Int32) + 1 = nI 0 from rfl, show (0 : Int32) = nI 0 from rfl, cp_row s (by omega) (by omega), nk_bd, nI_1]
      exact e
    · rw [rd_w4] at c1
      have e1 : upL (rdL M 98) 0 (rdL M 98 0) = rdL M 98 := by
        funext j
        by_cases hj : j = 0
        · subst hj; rw [upL_eq]
        · rw [upL_ne _ _ hj]
      rw [e1] at c1
      have e2 := stl_R c.2
      have e3 : a = rdL M 98 0 ∧ l = lsR (rdL M 98) 1 l.length := List.cons.inj e2
      show LcC M' (lnMrg a l)
      rw [e3.1]
      conv => arg 2; arg 2; rw [e3.2]
      exact c1
/-- the sides put in, one by one -/
def topsU (L : List Sq) : Nat → List Ln
  | 0 => []
  | j + 1 => lnIns (lnTop (sqF L j)) (topsU L j)
def lowsU (L : List Sq) : Nat → List Ln
  | 0 => topsU L L.length
  | j + 1 => lnIns (lnLow (sqF L j)) (lowsU L j)
theorem topsU_fold (L : List Sq) : ∀ j, topsU L j = (((List.range j).map (sqF L)).map lnTop).foldl (fun l r => lnIns r l) []
  | 0 => rfl
  | j + 1 => by
    rw [List.range_succ, List.map_append, List.map_append, List.foldl_append, ← topsU_fold L j]
    rfl
theorem lowsU_fold (L : List Sq) : ∀ j, lowsU L j = (((List.range j).map (sqF L)).map lnLow).foldl (fun l r => lnIns r l) (topsU L L.length)
  | 0 => rfl
  | j + 1 => by
    rw [List.range_succ, List.map_append, List.map_append, List.foldl_append, ← lowsU_fold L j]
    rfl
theorem lowsU_all (L : List Sq) : lowsU L L.length = lnAll L := by
  have e : (List.range L.length).map (sqF L) = L := sqF_of L
  rw [lowsU_fold, topsU_fold, e]
  unfold lnAll
  rw [List.foldl_append]
theorem topsU_sd (L : List Sq) : ∀ j, lnSd (topsU L j) ∧ (topsU L j).length = j
  | 0 => ⟨List.Pairwise.nil, rfl⟩
  | j + 1 => by
    obtain ⟨a, b⟩ := topsU_sd L j
    refine ⟨lnIns_sd _ _ a, ?_⟩
    show (lnIns _ (topsU L j)).length = _
    rw [(lnIns_perm _ _).length_eq]
    show (topsU L j).length + 1 = _
    rw [b]
theorem lowsU_sd (L : List Sq) : ∀ j, lnSd (lowsU L j) ∧ (lowsU L j).length = L.length + j
  | 0 => topsU_sd L L.length
  | j + 1 => by
    obtain ⟨a, b⟩ := lowsU_sd L j
    refine ⟨lnIns_sd _ _ a, ?_⟩
    show (lnIns _ (lowsU L j)).length = _
    rw [(lnIns_perm _ _).length_eq]
    show (lowsU L j).length + 1 = _
    rw [b]
    rfl
theorem lW_le : ∀ a ∈ lW, a ≤ 141 := by decide
theorem bd_2 {N : Nat} (hN : 100000 ≤ N) {t : Nat} {q : Rc} (hl : q.2.2.2.length ≤ 40) : ∀ k j fuel M, j + k = q.2.2.2.length → k < fuel → Shp M → TilR M t q → LcC M (lowsU q.2.2.2 j) → ∃ M', fn2_build_b64 N fuel 97 t (nI j) M = some ((), M') ∧ Fs lW M M' ∧ LcC M' (lnS q.2.2.2) := by
  intro k
  induction k with
  | zero =>
    intro j fuel M hj hf s tq c
    obtain ⟨g, rfl⟩ : ∃ g, fuel = g + 1 := ⟨fuel - 1, by omega⟩
    have : j = q.2.2.2.length := by omega
    subst this
    have hd := (lowsU_sd q.2.2.2 q.2.2.2.length).2
    obtain ⟨M', e, f1, c1⟩ := mg_ok hN s c (by omega)
    rw [lowsU_all, ← lnS_mrg] at c1
    refine ⟨M', ?_, f1, c1⟩
    show fn2_build_b64B N (fn2_build_b64 N g) 97 t (nI _) M = _
    unfold fn2_build_b64B
    rw [k_til tq, nk_ck, tq.2.1.2.1, if_pos (nI_le (Nat.le_refl _) (by omega)), nk_k, sk97 s, nk_dd, e, nk_bd]
  | succ k ih =>
    intro j fuel M hj hf s tq c
    obtain ⟨g, rfl⟩ : ∃ g, fuel = g + 1 := ⟨fuel - 1, by omega⟩
    have hj' : j < q.2.2.2.length := by omega
    obtain ⟨hs, hd⟩ := lowsU_sd q.2.2.2 j
    obtain ⟨M1, e1, f1, c1⟩ := cl_side hN s c (by omega) hs (lnLow (sqF q.2.2.2 j))
    obtain ⟨M', e2, f2, c2⟩ := ih (j + 1) g M1 (by omega) (by omega) (fs_shp f1 s) (tilr_dyn (fs_dyn f1 lW_le) tq) c1
    refine ⟨M', ?_, fs_trans f1 f2, c2⟩
    have hr := c_right tq hl hj'
    have hb := c_bottom tq hl hj'
    obtain ⟨tK, ⟨tf, t4, t5, t6⟩, ⟨_, _, k7, l7⟩, ⟨_, _, k8, l8⟩, ⟨_, _, k9, l9⟩, x7, x8, x9⟩ := tq
    have hin : am_in (nI j) q.2.2.2.length = true := nk_in hj' (by omega)
    have hcl : (nI j).toNatClampNeg = j := nI_clamp (by omega)
    have hle : ¬ nI q.2.2.2.length ≤ nI j := nI_ge hj' (by omega)
    show fn2_build_b64B N (fn2_build_b64 N g) 97 t (nI j) M = _
    unfold fn2_build_b64B
    simp only [nk_k, tK.2.2, eq_self, decide_true, nk_ck, t4, hle, if_false, hb, hr, nk_bd, k7, k9, l7, l9, hin, hcl, x7 j hj', x9 j hj', sk97 s, nI_1]
    rw [show fn2_insertSide N M 97 (qY q.2.2.2 j + qS q.2.2.2 j) (qX q.2.2.2 j) (qX q.2.2.2 j + qS q.2.2.2 j) (-qS q.2.2.2 j) = _ from e1, nk_bd]
    exact e2
theorem bd_1 {N : Nat} (hN : 100000 ≤ N) {t : Nat} {q : Rc} (hl : q.2.2.2.length ≤ 40) : ∀ k j fuel M, j + k = q.2.2.2.length → k < fuel → Shp M → TilR M t q → LcC M (topsU q.2.2.2 j) → ∃ M', fn2_build_b21 N fuel 97 t (nI j) M = some ((), M') ∧ Fs lW M M' ∧ LcC M' (lnS q.2.2.2) := by
  intro k
  induction k with
  | zero =>
    intro j fuel M hj hf s tq c
    obtain ⟨g, rfl⟩ : ∃ g, fuel = g + 1 := ⟨fuel - 1, by omega⟩
    have : j = q.2.2.2.length := by omega
    subst this
    obtain ⟨M', e, f1, c1⟩ := bd_2 hN hl q.2.2.2.length 0 N M (by omega) (by omega) s tq c
    refine ⟨M', ?_, f1, c1⟩
    show fn2_build_b21B N (fn2_build_b21 N g) 97 t (nI _) M = _
    unfold fn2_build_b21B
    rw [k_til tq, nk_ck, tq.2.1.2.1, if_pos (nI_le (Nat.le_refl _) (by omega))]
    exact e
  | succ k ih =>
    intro j fuel M hj hf s tq c
    obtain ⟨g, rfl⟩ : ∃ g, fuel = g + 1 := ⟨fuel - 1, by omega⟩
    have hj' : j < q.2.2.2.length := by omega
    obtain ⟨hs, hd⟩ := topsU_sd q.2.2.2 j
    obtain ⟨M1, e1, f1, c1⟩ := cl_side hN s c (by omega) hs (lnTop (sqF q.2.2.2 j))
    obtain ⟨M', e2, f2, c2⟩ := ih (j + 1) g M1 (by omega) (by omega) (fs_shp f1 s) (tilr_dyn (fs_dyn f1 lW_le) tq) c1
    refine ⟨M', ?_, fs_trans f1 f2, c2⟩
    have hr := c_right tq hl hj'
    obtain ⟨tK, ⟨tf, t4, t5, t6⟩, ⟨_, _, k7, l7⟩, ⟨_, _, k8, l8⟩, ⟨_, _, k9, l9⟩, x7, x8, x9⟩ := tq
    have hin : am_in (nI j) q.2.2.2.length = true := nk_in hj' (by omega)
    have hcl : (nI j).toNatClampNeg = j := nI_clamp (by omega)
    have hle : ¬ nI q.2.2.2.length ≤ nI j := nI_ge hj' (by omega)
    show fn2_build_b21B N (fn2_build_b21 N g) 97 t (nI j) M = _
    unfold fn2_build_b21B
    simp only [nk_k, tK.2.2, eq_self, decide_true, nk_ck, t4, hle, if_false, hr, nk_bd, k7, k8, k9, l7, l8, l9, hin, hcl, x7 j hj', x8 j hj', x9 j hj', sk97 s, nI_1]
    rw [show fn2_insertSide N M 97 (qY q.2.2.2 j) (qX q.2.2.2 j) (qX q.2.2.2 j + qS q.2.2.2 j) (qS q.2.2.2 j) = _ from e1, nk_bd]
    exact e2
