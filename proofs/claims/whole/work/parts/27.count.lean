def flB (D : Nat → Rc) (i : Nat) : Bool := decide ((D i).1 = 1)
def prB (D : Nat → Rc) (i : Nat) : Bool := decide (pfV (D i).2.2.2 = 1)
section
variable {M : am_Mem} {told m : Nat} {D : Nat → Rc}
theorem c_fl {N : Nat} (h : InvAt M told m D) : ∀ k j fuel, j + k = m → k < fuel → fn9_failing_b4 N fuel 104 (nI (cntU (flB D) j)) (nI j) M = some (nI (cntU (flB D) m), M) := by
  have hm := i_m h
  have s := i_shp h
  intro k
  induction k with
  | zero =>
    intro j fuel hj hf
    obtain ⟨f, rfl⟩ : ∃ f, fuel = f + 1 := ⟨fuel - 1, by omega⟩
    have : j = m := by omega
    show fn9_failing_b4B N (fn9_failing_b4 N f) 104 _ (nI j) M = _
    unfold fn9_failing_b4B
    rw [nk_k, sk104 s, nk_dd, i_104 h, if_pos (nI_le (by omega) (by omega)), this]
  | succ k ih =>
    intro j fuel hj hf
    obtain ⟨f, rfl⟩ : ∃ f, fuel = f + 1 := ⟨fuel - 1, by omega⟩
    have hj' : j < m := by omega
    have g := ih (j + 1) f (by omega) (by omega)
    rw [cntU] at g
    have t := i_til h hj'
    show fn9_failing_b4B N (fn9_failing_b4 N f) 104 _ (nI j) M = _
    unfold fn9_failing_b4B fn9_failing_b19 fn9_failing_b35 fn9_failing_b36 fn9_failing_b38
    rw [nk_k, sk104 s, nk_dd, i_104 h, if_neg (nI_ge (by omega) (by omega)), sr104_0 s, nk_k, sk105 s, nk_dd, sl105 s, nk_in (by omega) (by omega), nk_ck, nI_clamp (by omega), if_neg (tilr_ne t), k_til t, nk_ck, t.2.1.1, nI_1, nI_1, Int32.add_zero]
    rcases good_01 (i_good h hj') with e | e
    · rw [if_pos e]
      rw [if_neg (fun e2 => by rw [of_decide_eq_true e2] at e; exact absurd e (by decide))] at g
      exact g
    · rw [if_neg (fun e2 => by rw [e] at e2; exact absurd e2 (by decide))]
      rw [if_pos (show flB D j = true from decide_eq_true e)] at g
      exact g
theorem m_fl {N : Nat} (h : InvAt M told m D) : ∀ k j fuel, j + k = m → k < fuel → fn12_count_b55 N fuel 110 (nI (cntU (flB D) j)) (nI j) M = some (nI (cntU (flB D) m), M) := by
  have hm := i_m h
  intro k
  induction k with
  | zero =>
    intro j fuel hj hf
    obtain ⟨f, rfl⟩ : ∃ f, fuel = f + 1 := ⟨fuel - 1, by omega⟩
    have : j = m := by omega
    show fn12_count_b55B N (fn12_count_b55 N f) 110 _ (nI j) M = _
    unfold fn12_count_b55B
    rw [k_110 h, nk_ck, i_18 h, if_pos (nI_le (by omega) (by omega)), this]
  | succ k ih =>
    intro j fuel hj hf
    obtain ⟨f, rfl⟩ : ∃ f, fuel = f + 1 := ⟨fuel - 1, by omega⟩
    have hj' : j < m := by omega
    have g := ih (j + 1) f (by omega) (by omega)
    rw [cntU] at g
    show fn12_count_b55B N (fn12_count_b55 N f) 110 _ (nI j) M = _
    unfold fn12_count_b55B fn12_count_b72
    rw [k_110 h, nk_ck, i_18 h, if_neg (nI_ge (by omega) (by omega)), mv_f h hj', nk_bd, nI_1]
    rcases good_01 (i_good h hj') with e | e
    · rw [e, Int32.add_zero]
      rw [if_neg (fun e2 => by rw [of_decide_eq_true e2] at e; exact absurd e (by decide))] at g
      exact g
    · rw [e, nI_1]
      rw [if_pos (show flB D j = true from decide_eq_true e)] at g
      exact g
theorem c_pr {N : Nat} (hN : 100000 ≤ N) (h : InvAt M told m D) : ∀ k j fuel, j + k = m → k < fuel → fn9_perfectOnes_b4 N fuel 104 (nI (cntU (prB D) j)) (nI j) M = some (nI (cntU (prB D) m), M) := by
  have hm := i_m h
  have s := i_shp h
  intro k
  induction k with
  | zero =>
    intro j fuel hj hf
    obtain ⟨f, rfl⟩ : ∃ f, fuel = f + 1 := ⟨fuel - 1, by omega⟩
    have : j = m := by omega
    show fn9_perfectOnes_b4B N (fn9_perfectOnes_b4 N f) 104 _ (nI j) M = _
    unfold fn9_perfectOnes_b4B
    rw [nk_k, sk104 s, nk_dd, i_104 h, if_pos (nI_le (by omega) (by omega)), this]
  | succ k ih =>
    intro j fuel hj hf
    obtain ⟨f, rfl⟩ : ∃ f, fuel = f + 1 := ⟨fuel - 1, by omega⟩
    have hj' : j < m := by omega
    have g := ih (j + 1) f (by omega) (by omega)
    rw [cntU] at g
    have t := i_til h hj'
    show fn9_perfectOnes_b4B N (fn9_perfectOnes_b4 N f) 104 _ (nI j) M = _
    unfold fn9_perfectOnes_b4B fn9_perfectOnes_b19 fn9_perfectOnes_b35 fn9_perfectOnes_b36 fn9_perfectOnes_b38
    rw [nk_k, sk104 s, nk_dd, i_104 h, if_neg (nI_ge (by omega) (by omega)), sr104_0 s, nk_k, sk105 s, nk_dd, sl105 s, nk_in (by omega) (by omega), nk_ck, nI_clamp (by omega), if_neg (tilr_ne t), k_til t, nk_ck, c_pf hN t (i_len h hj'), nk_bd, nI_1, nI_1, Int32.add_zero]
    rcases pfV_01 (D j).2.2.2 with e | e
    · rw [if_pos e]
      rw [if_neg (fun e2 => by rw [of_decide_eq_true e2] at e; exact absurd e (by decide))] at g
      exact g
    · rw [if_neg (fun e2 => by rw [e] at e2; exact absurd e2 (by decide))]
      rw [if_pos (show prB D j = true from decide_eq_true e)] at g
      exact g
theorem m_pr {N : Nat} (hN : 100000 ≤ N) (h : InvAt M told m D) : ∀ k j fuel, j + k = m → k < fuel → fn12_count_b82 N fuel 110 (nI (cntU (prB D) j)) (nI j) M = some (nI (cntU (prB D) m), M) := by
  have hm := i_m h
  intro k
  induction k with
  | zero =>
    intro j fuel hj hf
    obtain ⟨f, rfl⟩ : ∃ f, fuel = f + 1 := ⟨fuel - 1, by omega⟩
    have : j = m := by omega
    show fn12_count_b82B N (fn12_count_b82 N f) 110 _ (nI j) M = _
    unfold fn12_count_b82B
    rw [k_110 h, nk_ck, i_18 h, if_pos (nI_le (by omega) (by omega)), this]
  | succ k ih =>
    intro j fuel hj hf
    obtain ⟨f, rfl⟩ : ∃ f, fuel = f + 1 := ⟨fuel - 1, by omega⟩
    have hj' : j < m := by omega
    have g := ih (j + 1) f (by omega) (by omega)
    rw [cntU] at g
    show fn12_count_b82B N (fn12_count_b82 N f) 110 _ (nI j) M = _
    unfold fn12_count_b82B fn12_count_b111 fn12_count_b112 fn12_count_b114
    rw [k_110 h, nk_ck, i_18 h, if_neg (nI_ge (by omega) (by omega)), mv_fail h hj', nk_bd, k_110 h, nk_ck, m_pf hN h hj', nk_bd, nI_1, nI_1, Int32.add_zero]
    rcases good_f (i_good h hj') with ⟨e, e'⟩ | ⟨e, e'⟩
    · rw [e, if_neg (by decide)]
      rw [if_neg (fun e2 => by
        have := of_decide_eq_true e2
        rw [e'] at this
        exact absurd this (by decide))] at g
      exact g
    · rw [e, if_pos rfl]
      rcases pfV_01 (D j).2.2.2 with e | e
      · rw [if_pos e]
        rw [if_neg (fun e2 => by rw [of_decide_eq_true e2] at e; exact absurd e (by decide))] at g
        exact g
      · rw [if_neg (fun e2 => by rw [e] at e2; exact absurd e2 (by decide))]
        rw [if_pos (show prB D j = true from decide_eq_true e)] at g
        exact g
end
theorem ok_count {N : Nat} (hN : 100000 ≤ N) : OK_count N Inv := by
  intro M x ⟨told, m, D, h⟩
  have h' := inv_thr h 0
  have s := i_shp h
  have hm := i_m h
  obtain ⟨f, f1, f2, f3, f4⟩ := h.2.1
  obtain ⟨p, p1, p2, p3, p4⟩ := h.2.2.1
  obtain ⟨u, u1, u2, u3⟩ := h.2.2.2.2.1
  have w : ∀ i, ¬ i = 0 → am_I (am_wI M 110 0 0) 110 i = am_I M 110 i := fun i hi => rI_ix M 110 0 hi
  have fin : ∀ v, fn11_count N M 1 x = some (v, M) → fn12_count N M 110 x = some (v, am_wI M 110 0 0) → ∃ (v : Int32) (M1 M2 : am_Mem), fn11_count N M 1 x = some (v, M1) ∧ am_K M1 110 = 12 ∧ fn12_count N M1 110 x = some (v, M2) ∧ Inv M2 :=
    fun v a b => ⟨v, M, am_wI M 110 0 0, a, sk110 s, b, told, m, D, h'⟩
  have ec : fn11_count N M 1 x = if x = 0 then some (nI m, M) else if x = 1 then some (nI (cntU (flB D) m), M) else if x = 2 then some (nI (cntU (prB D) m), M) else if x = 3 then some (nI u, M) else if x = 4 then some (nI f, M) else if x = 5 then some (nI p, M) else some (-1, M) := by
    unfold fn11_count fn11_count_b0
    rw [nk_k, sk1 s, sr1_8 s, sr1_0 s, sr1_7 s, nk_k, nk_k, nk_k, sk104 s, sk2 s, sk102 s, i_104 h, u2, f2, p2]
    unfold fn9_failing fn9_failing_b0 fn9_perfectOnes fn9_perfectOnes_b0
    rw [show fn9_failing_b4 N N 104 0 0 M = _ from c_fl (N := N) h m 0 N (by omega) (by omega), show fn9_perfectOnes_b4 N N 104 0 0 M = _ from c_pr hN h m 0 N (by omega) (by omega)]
    rfl
  have em : fn12_count N M 110 x = if x = 0 then some (nI m, am_wI M 110 0 0) else if x = 1 then some (nI (cntU (flB D) m), am_wI M 110 0 0) else if x = 2 then some (nI (cntU (prB D) m), am_wI M 110 0 0) else if x = 3 then some (nI u, am_wI M 110 0 0) else if x = 4 then some (nI f, am_wI M 110 0 0) else if x = 5 then some (nI p, am_wI M 110 0 0) else some (-1, am_wI M 110 0 0) := by
    unfold fn12_count fn12_count_b0
    rw [k_110 h, nk_ck, w 18 (by decide), w 19 (by decide), w 2 (by decide), w 42 (by decide), i_18 h, u3, f3, p3]
    rw [show fn12_count_b55 N N 110 0 0 (am_wI M 110 0 0) = _ from m_fl (N := N) h' m 0 N (by omega) (by omega), show fn12_count_b82 N N 110 0 0 (am_wI M 110 0 0) = _ from m_pr hN h' m 0 N (by omega) (by omega)]
  by_cases x0 : x = 0
  · exact fin _ (by rw [ec, if_pos x0]) (by rw [em, if_pos x0])
  rw [if_neg x0] at ec em
  by_cases x1 : x = 1
  · exact fin _ (by rw [ec, if_pos x1]) (by rw [em, if_pos x1])
  rw [if_neg x1] at ec em
  by_cases x2 : x = 2
  · exact fin _ (by rw [ec, if_pos x2]) (by rw [em, if_pos x2])
  rw [if_neg x2] at ec em
  by_cases x3 : x = 3
  · exact fin _ (by rw [ec, if_pos x3]) (by rw [em, if_pos x3])
  rw [if_neg x3] at ec em
  by_cases x4 : x = 4
  · exact fin _ (by rw [ec, if_pos x4]) (by rw [em, if_pos x4])
  rw [if_neg x4] at ec em
  by_cases x5 : x = 5
  · exact fin _ (by rw [ec, if_pos x5]) (by rw [em, if_pos x5])
  rw [if_neg x5] at ec em
  exact fin _ ec em
