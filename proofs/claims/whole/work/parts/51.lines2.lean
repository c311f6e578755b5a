theorem w5_0 : (98 : Nat) ∈ [97, 98, 99, 100, 101] := by decide
/-- the four rows of numbers at a place -/
def rdL (M : am_Mem) (a k : Nat) : Ln := (am_I M a k, am_I M (a + 1) k, am_I M (a + 2) k, am_I M (a + 3) k)
def upL (f : Nat → Ln) (k : Nat) (v : Ln) : Nat → Ln := fun j => if j = k then v else f j
theorem upL_eq (f : Nat → Ln) (k : Nat) (v : Ln) : upL f k v k = v := if_pos rfl
theorem upL_ne (f : Nat → Ln) {k j : Nat} (v : Ln) (h : ¬ j = k) : upL f k v j = f j := if_neg h
def w4 (M : am_Mem) (a j : Nat) (q : Ln) : am_Mem := am_wI (am_wI (am_wI (am_wI M a j q.1) (a + 1) j q.2.1) (a + 2) j q.2.2.1) (a + 3) j q.2.2.2
theorem rd_w4 (M : am_Mem) (a j : Nat) (q : Ln) : rdL (w4 M a j q) a = upL (rdL M a) j q := by
  funext k
  unfold rdL w4
  by_cases h : k = j
  · subst h
    rw [upL_eq]
    simp (disch := omega) only [rI_ne, rI_eq]
  · rw [upL_ne _ _ h]
    simp (disch := omega) only [rI_ne, rI_ix]
theorem fs_w4 {W : List Nat} (M : am_Mem) {a : Nat} (j : Nat) (q : Ln) (h0 : a ∈ W) (h1 : a + 1 ∈ W) (h2 : a + 2 ∈ W) (h3 : a + 3 ∈ W) : Fs W M (w4 M a j q) :=
  fs_trans (fs_trans (fs_trans (fs_wI _ _ _ h0) (fs_wI _ _ _ h1)) (fs_wI _ _ _ h2)) (fs_wI _ _ _ h3)
theorem w4_o (M : am_Mem) {a b : Nat} (j : Nat) (q : Ln) (h0 : ¬ b = a) (h1 : ¬ b = a + 1) (h2 : ¬ b = a + 2) (h3 : ¬ b = a + 3) : am_I (w4 M a j q) b = am_I M b := by
  unfold w4
  rw [rI_ne _ _ _ h3, rI_ne _ _ _ h2, rI_ne _ _ _ h1, rI_ne _ _ _ h0]
def shL (q : Ln) : Nat → (Nat → Ln) → Nat → Ln
  | 0, f => upL f 0 q
  | j + 1, f => if lnGt (f j) q = true then shL q j (upL f (j + 1) (f j)) else upL f (j + 1) q
/-- a list stands in the rows -/
def StL (f : Nat → Ln) (T : List Ln) : Prop := ∀ i (h : i < T.length), f i = T[i]
theorem shL_hi (q : Ln) : ∀ (j : Nat) (f : Nat → Ln) (i : Nat), j < i → shL q j f i = f i
  | 0, f, i, h => upL_ne _ _ (by omega)
  | j + 1, f, i, h => by
    unfold shL
    split
    · rw [shL_hi q j _ i (by omega), upL_ne _ _ (by omega)]
    · exact upL_ne _ _ (by omega)
theorem lnIns_no (q : Ln) : ∀ T, (∀ t ∈ T, ¬ lnGt t q = true) → lnIns q T = T ++ [q]
  | [], _ => rfl
  | a :: l, h => by
    unfold lnIns
    rw [if_neg (h a List.mem_cons_self), lnIns_no q l (fun t ht => h t (List.mem_cons_of_mem _ ht))]
    rfl
theorem lnIns_app (q a : Ln) (ha : lnGt a q = true) : ∀ T, lnIns q (T ++ [a]) = lnIns q T ++ [a]
  | [] => by
    show lnIns q [a] = [q] ++ [a]
    unfold lnIns
    rw [if_pos ha]
    rfl
  | b :: l => by
    show lnIns q (b :: (l ++ [a])) = _
    unfold lnIns
    by_cases h : lnGt b q = true
    · rw [if_pos h, if_pos h]; rfl
    · rw [if_neg h, if_neg h, lnIns_app q a ha l]; rfl
theorem stl_pre {f : Nat → Ln} {T : List Ln} {a : Ln} (h : StL f (T ++ [a])) : StL f T ∧ f T.length = a := by
  refine ⟨fun i hi => ?_, ?_⟩
  · rw [h i (by rw [List.length_append]; omega), List.getElem_append_left hi]
  · rw [h T.length (by rw [List.length_append]; exact Nat.lt_succ_self _), List.getElem_append_right (Nat.le_refl _)]
    simp
theorem stl_app {f : Nat → Ln} {T : List Ln} {a : Ln} (h : StL f T) (e : f T.length = a) : StL f (T ++ [a]) := by
  intro i hi
  rw [List.length_append] at hi
  have hi' : i < T.length + 1 := hi
  by_cases h1 : i < T.length
  · rw [List.getElem_append_left h1]; exact h i h1
  · have : i = T.length := by omega
    subst this
    rw [List.getElem_append_right (Nat.le_refl _), e]
    simp
theorem stl_ext {f g : Nat → Ln} {T : List Ln} (h : StL f T) (e : ∀ i, i < T.length → g i = f i) : StL g T := fun i hi => (e i hi).trans (h i hi)
theorem shL_ins (q : Ln) : ∀ (n : Nat) (T : List Ln) (f : Nat → Ln), T.length = n → lnSd T → StL f T → StL (shL q n f) (lnIns q T) := by
  intro n
  induction n with
  | zero =>
    intro T f hn _ _
    have : T = [] := List.eq_nil_of_length_eq_zero hn
    subst this
    intro i hi
    have hi' : i < 1 := hi
    have : i = 0 := by omega
    subst this
    rfl
  | succ n ih =>
    intro T f hn hs h
    obtain ⟨T0, a, rfl⟩ : ∃ T0 a, T = T0 ++ [a] := by
      have hne : T ≠ [] := fun e => by rw [e] at hn; cases hn
      exact ⟨T.dropLast, T.getLast hne, (List.dropLast_concat_getLast hne).symm⟩
    have hl : T0.length = n := by
      rw [List.length_append] at hn
      have : T0.length + 1 = n + 1 := hn
      omega
    obtain ⟨h1, h2⟩ := stl_pre h
    rw [hl] at h2
    have hs0 := (List.pairwise_append.mp hs)
    unfold shL
    rw [h2]
    by_cases g : lnGt a q = true
    · rw [if_pos g, lnIns_app q a g]
      have hi := ih T0 (upL f (n + 1) a) hl hs0.1 (stl_ext h1 (fun i hi => upL_ne _ _ (by omega)))
      refine stl_app hi ?_
      have : (lnIns q T0).length = n + 1 := by rw [(lnIns_perm q T0).length_eq]; show T0.length + 1 = _; omega
      rw [this, shL_hi q n _ (n + 1) (by omega), upL_eq]
    · rw [if_neg g, lnIns_no q (T0 ++ [a])]
      · refine stl_app (stl_ext h (fun i hi => upL_ne _ _ (by omega))) ?_
        rw [hn, upL_eq]
      · intro t ht
        rcases List.mem_append.mp ht with ht | ht
        · have := hs0.2.2 t ht a (List.mem_singleton.mpr rfl)
          rw [lnGt_iff] at this g ⊢
          omega
        · rw [List.mem_singleton] at ht
          subst ht
          exact g
theorem cl_gt {f : Ln} {q : Ln} : lnGt f q = (decide (q.1 < f.1) || (decide (f.1 = q.1) && decide (q.2.1 < f.2.1))) := rfl
def lW : List Nat := [97, 98, 99, 100, 101]
theorem cp_row {M : am_Mem} (s : Shp M) {i j : Nat} (hi : i < 80) (hj : j < 80) : fn2_copyRow M 97 (nI i) (nI j) = some ((), w4 M 98 j (rdL M 98 i)) := by
  have i1 : am_in (nI i) 80 = true := nk_in hi (by decide)
  have i2 : am_in (nI j) 80 = true := nk_in hj (by decide)
  have l1 : (nI i).toNatClampNeg = i := nI_clamp (by omega)
  have l2 : (nI j).toNatClampNeg = j := nI_clamp (by omega)
  unfold fn2_copyRow fn2_copyRow_b0 w4 rdL
  simp (disch := decide) only [nk_k, sk97 s, sr97_0 s, sr97_1 s, sr97_2 s, sr97_3 s, sk98 s, sk99 s, sk100 s, sk101 s, sl98 s, sl99 s, sl100 s, sl101 s, eq_self, decide_true, nk_ck, i1, i2, l1, l2, rI_ne]
theorem cl_fin {N : Nat} {M : am_Mem} (s : Shp M) {j : Nat} (hj : j < 80) (q : Ln) : fn2_insertSide_b76 N 97 q.1 q.2.1 q.2.2.1 q.2.2.2 (nI j) M = some ((), am_wI (w4 M 98 j q) 97 4 (am_I M 97 4 + 1)) := by
  have i2 : am_in (nI j) 80 = true := nk_in hj (by decide)
  have l2 : (nI j).toNatClampNeg = j := nI_clamp (by omega)
  unfold fn2_insertSide_b76 w4
  simp (disch := decide) only [nk_k, sk97 s, sr97_0 s, sr97_1 s, sr97_2 s, sr97_3 s, sk98 s, sk99 s, sk100 s, sk101 s, sl98 s, sl99 s, sl100 s, sl101 s, eq_self, decide_true, nk_ck, i2, l2, rI_ne]
theorem rd_o {M : am_Mem} {a b i : Nat} {v : Int32} (h : b < a ∨ a + 3 < b) : rdL (am_wI M b i v) a = rdL M a := by
  funext k
  unfold rdL
  rw [rI_ne _ _ _ (by omega), rI_ne _ _ _ (by omega), rI_ne _ _ _ (by omega), rI_ne _ _ _ (by omega)]
theorem cl_ins {N : Nat} (q : Ln) : ∀ j fuel M, j < fuel → j < 80 → Shp M → ∃ M', fn2_insertSide_b16 N fuel 97 q.1 q.2.1 q.2.2.1 q.2.2.2 (nI j) M = some ((), M') ∧ Fs lW M M' ∧ rdL M' 98 = shL q j (rdL M 98) ∧ am_I M' 97 4 = am_I M 97 4 + 1 := by
  intro j
  have fin : ∀ j M, j < 80 → Shp M → ∃ M', fn2_insertSide_b76 N 97 q.1 q.2.1 q.2.2.1 q.2.2.2 (nI j) M = some ((), M') ∧ Fs lW M M' ∧ rdL M' 98 = upL (rdL M 98) j q ∧ am_I M' 97 4 = am_I M 97 4 + 1 := by
    intro j M hj s
    exact ⟨_, cl_fin s hj q, fs_trans (fs_w4 M j q (by decide) (by decide) (by decide) (by decide)) (fs_wI _ _ _ (by decide)), by rw [rd_o (by omega), rd_w4], rI_eq _ _ _ _⟩
  induction j with
  | zero =>
    intro fuel M hf hj s
    obtain ⟨g, rfl⟩ : ∃ g, fuel = g + 1 := ⟨fuel - 1, by omega⟩
    obtain ⟨M', e, f1, c1, d1⟩ := fin 0 M hj s
    refine ⟨M', ?_, f1, c1, d1⟩
    show fn2_insertSide_b16B N (fn2_insertSide_b16 N g) 97 q.1 q.2.1 q.2.2.1 q.2.2.2 (nI 0) M = _
    unfold fn2_insertSide_b16B
    rw [if_pos (show nI 0 ≤ 0 from by decide), e]
  | succ j ih =>
    intro fuel M hf hj s
    obtain ⟨g, rfl⟩ : ∃ g, fuel = g + 1 := ⟨fuel - 1, by omega⟩
    have hz : ¬ nI (j + 1) ≤ 0 := nI_nle (by omega) (by omega)
    have e1 : nI (j + 1) - 1 = nI j := nI_pred j
    have e2 : nI (j + 1) + (-1) = nI j := pk_m1 j
    have i1 : am_in (nI j) 80 = true := nk_in (by omega) (by decide)
    have l1 : (nI j).toNatClampNeg = j := nI_clamp (by omega)
    have r1 : am_I M 98 j = (rdL M 98 j).1 := rfl
    have r2 : am_I M 99 j = (rdL M 98 j).2.1 := rfl
    show ∃ M', fn2_insertSide_b16B N (fn2_insertSide_b16 N g) 97 q.1 q.2.1 q.2.2.1 q.2.2.2 (nI (j + 1)) M = _ ∧ _
    unfold fn2_insertSide_b16B fn2_insertSide_b60
    simp only [hz, if_false, nk_k, sk97 s, sr97_0 s, sr97_1 s, sk98 s, sk99 s, sl98 s, sl99 s, eq_self, decide_true, nk_ck, e1, i1, l1, e2, cp_row s (show j < 80 by omega) hj, nk_bd, r1, r2]
    unfold shL
    rw [cl_gt]
    have go : ∃ M', fn2_insertSide_b16 N g 97 q.1 q.2.1 q.2.2.1 q.2.2.2 (nI j) (w4 M 98 (j + 1) (rdL M 98 j)) = some ((), M') ∧ Fs lW M M' ∧ rdL M' 98 = shL q j (upL (rdL M 98) (j + 1) (rdL M 98 j)) ∧ am_I M' 97 4 = am_I M 97 4 + 1 := by
      have f0 : Fs lW M (w4 M 98 (j + 1) (rdL M 98 j)) := fs_w4 M _ _ (by decide) (by decide) (by decide) (by decide)
      obtain ⟨M', e, f1, c1, d1⟩ := ih g _ (by omega) (by omega) (fs_shp f0 s)
      exact ⟨M', e, fs_trans f0 f1, by rw [c1, rd_w4], by rw [d1, w4_o _ _ _ (by decide) (by decide) (by decide) (by decide)]⟩
    by_cases h1 : q.1 < (rdL M 98 j).1
    · rw [if_pos h1, decide_eq_true h1]
      exact go
    · rw [if_neg h1, decide_eq_false h1, Bool.false_or]
      by_cases h2 : (rdL M 98 j).1 = q.1
      · rw [if_pos h2, decide_eq_true h2, Bool.true_and]
        by_cases h3 : (rdL M 98 j).2.1 ≤ q.2.1
        · rw [if_pos h3, decide_eq_false (Int32.not_lt.mpr h3), if_neg (by decide)]
          exact fin (j + 1) M hj s
        · rw [if_neg h3, decide_eq_true (Int32.not_le.mp h3), if_pos rfl]
          exact go
      · rw [if_neg h2, decide_eq_false h2, Bool.false_and, if_neg (by decide)]
        exact fin (j + 1) M hj s
/-- the class's table holds a list -/
def LcC (M : am_Mem) (T : List Ln) : Prop := am_I M 97 4 = nI T.length ∧ StL (rdL M 98) T
theorem cl_side {N : Nat} (hN : 100000 ≤ N) {M : am_Mem} {T : List Ln} (s : Shp M) (c : LcC M T) (hl : T.length < 80) (hs : lnSd T) (q : Ln) : ∃ M', fn2_insertSide N M 97 q.1 q.2.1 q.2.2.1 q.2.2.2 = some ((), M') ∧ Fs lW M M' ∧ LcC M' (lnIns q T) := by
  obtain ⟨M', e, f, r, d⟩ := cl_ins (N := N) q T.length N M (by omega) hl s
  refine ⟨M', ?_, f, ?_, ?_⟩
  · unfold fn2_insertSide fn2_insertSide_b0
    rw [nk_k, sk97 s, nk_dd, c.1, if_pos (show nI T.length < 80 from nI_lt (b := 80) hl (by decide)), e]
  · rw [d, c.1, nI_1, (lnIns_perm q T).length_eq]; rfl
  · rw [r]
    exact shL_ins q T.length T _ rfl hs c.2
