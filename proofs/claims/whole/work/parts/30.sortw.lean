theorem dr_behind {M : am_Mem} {d n k : Nat} {w h : Int32} {f : Nat → Sq} (t : DrT M d) (c : DrC M d n w h f) (hn : n ≤ 40) (hk : k < n) (x y s : Int32) : fn0_isBehind M d (nI k) x y = some (if gtQ (f k) (x, y, s) = true then 1 else 0, M) := by
  obtain ⟨t1, t2, t3, t4, t5, t6, t7, t8, t9, t10⟩ := t
  obtain ⟨a1, a2, a3⟩ := c.2.2.2 k hk
  have hin : am_in (nI k) 40 = true := nk_in (by omega) (by decide)
  have hcl : (nI k).toNatClampNeg = k := nI_clamp (by omega)
  unfold fn0_isBehind fn0_isBehind_b0 fn0_isBehind_b30 fn0_isBehind_b34 fn0_isBehind_b35 gtQ
  simp only [nk_k, t1, t2, t3, t5, t6, t8, t9, eq_self, decide_true, nk_ck, nk_ck, hin, hcl, a1, a2]
  by_cases h1 : y < (f k).2.1
  · rw [if_pos h1, decide_eq_true h1]; rfl
  · rw [if_neg h1, decide_eq_false h1]
    by_cases h2 : (f k).2.1 = y
    · rw [if_pos h2, decide_eq_true h2]
      by_cases h3 : (f k).1 ≤ x
      · rw [if_pos h3, decide_eq_false (Int32.not_lt.mpr h3)]; rfl
      · rw [if_neg h3, decide_eq_true (Int32.not_le.mp h3)]; rfl
    · rw [if_neg h2, decide_eq_false h2]; rfl
theorem dr_put {M : am_Mem} {d n j : Nat} {w h : Int32} {f : Nat → Sq} (c : DrC M d n w h f) (q : Sq) : DrC (am_wI (am_wI (am_wI M (d + 1) j q.1) (d + 2) j q.2.1) (d + 3) j q.2.2) d n w h (upF f j q) := by
  obtain ⟨c1, c2, c3, c4⟩ := c
  refine ⟨?_, ?_, ?_, fun k hk => ?_⟩
  · simp (disch := omega) only [rI_ne, c1]
  · simp (disch := omega) only [rI_ne, c2]
  · simp (disch := omega) only [rI_ne, c3]
  · by_cases hkn : k = j
    · subst hkn
      rw [upF_eq]
      simp (disch := omega) only [rI_eq, rI_ne, and_self]
    · obtain ⟨a1, a2, a3⟩ := c4 k hk
      rw [upF_ne _ _ hkn]
      simp (disch := omega) only [rI_ix, rI_ne, a1, a2, a3, and_self]
theorem fs_put {M : am_Mem} {d j : Nat} (q : Sq) : Fs (dW d) M (am_wI (am_wI (am_wI M (d + 1) j q.1) (d + 2) j q.2.1) (d + 3) j q.2.2) :=
  fs_trans (fs_trans (fs_wI _ _ _ (dW_1 d)) (fs_wI _ _ _ (dW_2 d))) (fs_wI _ _ _ (dW_3 d))
theorem dr_ins {N : Nat} {K : Nat → Int32 → am_Mem → Option (Unit × am_Mem)} {d n i : Nat} {w h x y s : Int32} (hn : n ≤ 40) (hi : i < n) : ∀ j f M fuel, j ≤ i → j < fuel → DrT M d → DrC M d n w h f → ∃ M', fn0_sortAsCode_b35 N K fuel d (nI i) x y s (nI j) M = K d (nI (i + 1)) M' ∧ Fs (dW d) M M' ∧ DrC M' d n w h (shF (x, y, s) j f) := by
  intro j
  have fin : ∀ j f M, j ≤ i → DrT M d → DrC M d n w h f → ∃ M', fn0_sortAsCode_b107 N K d (nI i) x y s (nI j) M = K d (nI (i + 1)) M' ∧ Fs (dW d) M M' ∧ DrC M' d n w h (upF f j (x, y, s)) := by
    intro j f M hj t c
    have hin : am_in (nI j) 40 = true := nk_in (by omega) (by decide)
    have hcl : (nI j).toNatClampNeg = j := nI_clamp (by omega)
    refine ⟨_, ?_, fs_put (x, y, s), dr_put c (x, y, s)⟩
    obtain ⟨t1, t2, t3, t4, t5, t6, t7, t8, t9, t10⟩ := t
    unfold fn0_sortAsCode_b107
    simp only [nk_k, t1, t2, t3, t4, t5, t6, t7, t8, t9, t10, eq_self, decide_true, nk_ck, nk_ck, hin, hcl, nI_1]
  induction j with
  | zero =>
    intro f M fuel hj hf t c
    obtain ⟨g, rfl⟩ : ∃ g, fuel = g + 1 := ⟨fuel - 1, by omega⟩
    obtain ⟨M', e, f1, c1⟩ := fin 0 f M hj t c
    refine ⟨M', ?_, f1, c1⟩
    show fn0_sortAsCode_b35B N K (fn0_sortAsCode_b35 N K g) d (nI i) x y s (nI 0) M = _
    unfold fn0_sortAsCode_b35B
    rw [if_pos (show nI 0 ≤ 0 from by decide), e]
  | succ j ih =>
    intro f M fuel hj hf t c
    obtain ⟨g, rfl⟩ : ∃ g, fuel = g + 1 := ⟨fuel - 1, by omega⟩
    have hz : ¬ nI (j + 1) ≤ 0 := nI_nle (by omega) (by omega)
    have e1 : nI (j + 1) - 1 = nI j := nI_pred j
    have e2 : nI (j + 1) + (-1) = nI j := pk_m1 j
    have hb := dr_behind t c hn (k := j) (by omega) x y s
    unfold shF
    by_cases hg : gtQ (f j) (x, y, s) = true
    · rw [if_pos hg]
      obtain ⟨M', e, f1, c1⟩ := ih (upF f (j + 1) (f j)) _ g (by omega) (by omega) (drt_fs (fs_put (f j)) t) (dr_put (j := j + 1) c (f j))
      refine ⟨M', ?_, fs_trans (fs_put (f j)) f1, c1⟩
      rw [← e]
      obtain ⟨a1, a2, a3⟩ := c.2.2.2 j (by omega)
      obtain ⟨t1, t2, t3, t4, t5, t6, t7, t8, t9, t10⟩ := t
      have hin : am_in (nI j) 40 = true := nk_in (by omega) (by decide)
      have hcl : (nI j).toNatClampNeg = j := nI_clamp (by omega)
      have hin1 : am_in (nI (j + 1)) 40 = true := nk_in (by omega) (by decide)
      have hcl1 : (nI (j + 1)).toNatClampNeg = j + 1 := nI_clamp (by omega)
      show fn0_sortAsCode_b35B N K (fn0_sortAsCode_b35 N K g) d (nI i) x y s (nI (j + 1)) M = _
      unfold fn0_sortAsCode_b35B
      rw [if_neg hz, nk_k, t1, nk_dd, e1, hb, nk_bd, if_pos hg, if_neg z_1, e2]
      simp (disch := omega) only [nk_k, t1, t2, t3, t4, t5, t6, t7, t8, t9, t10, eq_self, decide_true, nk_ck, nk_ck, hin, hcl, hin1, hcl1, rI_ne, a1, a2, a3]
    · rw [if_neg hg]
      obtain ⟨M', e, f1, c1⟩ := fin (j + 1) f M hj t c
      refine ⟨M', ?_, f1, c1⟩
      show fn0_sortAsCode_b35B N K (fn0_sortAsCode_b35 N K g) d (nI i) x y s (nI (j + 1)) M = _
      unfold fn0_sortAsCode_b35B
      rw [if_neg hz, nk_k, t.1, nk_dd, e1, hb, nk_bd, if_neg hg, if_pos rfl, e]
theorem dr_srt {N : Nat} (hN : 100000 ≤ N) {d n : Nat} {w h : Int32} (hn : n ≤ 40) : ∀ k i f M fuel, 1 ≤ i → i + k = n ∨ (k = 0 ∧ n ≤ i) → k < fuel → DrT M d → DrC M d n w h f → i < 50 → ∃ M', fn0_sortAsCode_b2 N fuel d (nI i) M = some ((), M') ∧ Fs (dW d) M M' ∧ DrC M' d n w h (srt k i f) := by
  intro k
  induction k with
  | zero =>
    intro i f M fuel h1 hi hf t c hi5
    obtain ⟨g, rfl⟩ : ∃ g, fuel = g + 1 := ⟨fuel - 1, by omega⟩
    refine ⟨M, ?_, fs_refl _ _, c⟩
    show fn0_sortAsCode_b2B N (fn0_sortAsCode_b2 N g) d (nI i) M = _
    unfold fn0_sortAsCode_b2B
    rw [nk_k, t.1, nk_dd, c.1, if_pos (nI_le (by omega) (by omega))]
  | succ k ih =>
    intro i f M fuel h1 hi hf t c hi5
    obtain ⟨g, rfl⟩ : ∃ g, fuel = g + 1 := ⟨fuel - 1, by omega⟩
    have hin' : i < n := by omega
    obtain ⟨M1, e1, f1, c1⟩ := dr_ins (N := N) (K := fn0_sortAsCode_b2 N g) (x := (f i).1) (y := (f i).2.1) (s := (f i).2.2) hn hin' i f M N (Nat.le_refl _) (by omega) t c
    obtain ⟨M2, e2, f2, c2⟩ := ih (i + 1) _ M1 g (by omega) (by omega) (by omega) (drt_fs f1 t) c1 (by omega)
    refine ⟨M2, ?_, fs_trans f1 f2, ?_⟩
    · show fn0_sortAsCode_b2B N (fn0_sortAsCode_b2 N g) d (nI i) M = _
      unfold fn0_sortAsCode_b2B fn0_sortAsCode_b17 fn0_sortAsCode_b24 fn0_sortAsCode_b32
      obtain ⟨a1, a2, a3⟩ := c.2.2.2 i hin'
      obtain ⟨t1, t2, t3, t4, t5, t6, t7, t8, t9, t10⟩ := t
      have hin : am_in (nI i) 40 = true := nk_in (by omega) (by decide)
      have hcl : (nI i).toNatClampNeg = i := nI_clamp (by omega)
      have hle : ¬ nI n ≤ nI i := nI_ge hin' (by omega)
      simp only [nk_k, t1, t2, t3, t4, t5, t6, t7, t8, t9, t10, c.1, hle, if_false, eq_self, decide_true, nk_ck, nk_ck, hin, hcl, a1, a2, a3]
      rw [e1, e2]
    · unfold srt
      rw [← sh_sw]
      exact c2
theorem dr_sort {N : Nat} (hN : 100000 ≤ N) {d n : Nat} {w h : Int32} {f : Nat → Sq} {M : am_Mem} (hn : n ≤ 40) (t : DrT M d) (c : DrC M d n w h f) : ∃ M', fn0_sortAsCode N M d = some ((), M') ∧ Fs (dW d) M M' ∧ DrC M' d n w h (sor n f) :=
  dr_srt hN hn (n - 1) 1 f M N (by omega) (by omega) (by omega) t c (by omega)
/-- what stands in the reference's row -/
def RoC (M : am_Mem) (n : Nat) (w h : Int32) (f : Nat → Sq) : Prop := am_I M 140 0 = nI n ∧ am_I M 140 1 = w ∧ am_I M 140 2 = h ∧ am_I M 140 3 = 0 ∧ ∀ k, k < n → am_I M 140 (4 + k) = (f k).1 ∧ am_I M 140 (44 + k) = (f k).2.1 ∧ am_I M 140 (84 + k) = (f k).2.2
theorem ro_ahead {M : am_Mem} {n k : Nat} {w h : Int32} {f : Nat → Sq} (s : Shp M) (c : RoC M n w h f) (hn : n ≤ 40) (hk : k + 1 < n) : fn12_isAhead M 110 (nI (k + 1)) (nI k) = some (if gtQ (f k) (f (k + 1)) = true then 1 else 0, M) := by
  obtain ⟨a1, a2, a3⟩ := c.2.2.2.2 k (by omega)
  obtain ⟨b1, b2, b3⟩ := c.2.2.2.2 (k + 1) (by omega)
  have e1 := lit_add 44 k
  have e2 := lit_add 44 (k + 1)
  have e3 := lit_add 4 k
  have e4 := lit_add 4 (k + 1)
  have i1 : am_in (nI (44 + k)) 124 = true := nk_in (by omega) (by decide)
  have i2 : am_in (nI (44 + (k + 1))) 124 = true := nk_in (by omega) (by decide)
  have i3 : am_in (nI (4 + k)) 124 = true := nk_in (by omega) (by decide)
  have i4 : am_in (nI (4 + (k + 1))) 124 = true := nk_in (by omega) (by decide)
  have l1 : (nI (44 + k)).toNatClampNeg = 44 + k := nI_clamp (by omega)
  have l2 : (nI (44 + (k + 1))).toNatClampNeg = 44 + (k + 1) := nI_clamp (by omega)
  have l3 : (nI (4 + k)).toNatClampNeg = 4 + k := nI_clamp (by omega)
  have l4 : (nI (4 + (k + 1))).toNatClampNeg = 4 + (k + 1) := nI_clamp (by omega)
  unfold fn12_isAhead fn12_isAhead_b0 fn12_isAhead_b74 gtQ
  simp only [nk_k, sk110 s, sr110_48 s, sk140 s, sl140 s, eq_self, decide_true, nk_ck, nk_ck, e1, e2, e3, e4, i1, i2, i3, i4, l1, l2, l3, l4, a1, a2, b1, b2]
  by_cases h2 : (f (k + 1)).2.1 = (f k).2.1
  · rw [if_pos h2, decide_eq_false (by rw [h2]; exact Int32.lt_irrefl), decide_eq_true h2.symm]
    by_cases h3 : (f k).1 ≤ (f (k + 1)).1
    · rw [if_pos h3, decide_eq_false (Int32.not_lt.mpr h3)]; rfl
    · rw [if_neg h3, decide_eq_true (Int32.not_le.mp h3)]; rfl
  · rw [if_neg h2, decide_eq_false (p := (f k).2.1 = (f (k + 1)).2.1) (fun e => h2 e.symm)]
    by_cases h3 : (f k).2.1 ≤ (f (k + 1)).2.1
    · rw [if_pos h3, decide_eq_false (Int32.not_lt.mpr h3)]; rfl
    · rw [if_neg h3, decide_eq_true (Int32.not_le.mp h3)]; rfl
theorem ro_trade1 {N : Nat} {M : am_Mem} {fuel a k : Nat} (s : Shp M) (hk : k + 1 < 40) (ha : a ≤ 84) : fn12_trades_b2 N (fuel + 1) 110 (nI (k + 1)) (nI k) (nI a) M = fn12_trades_b2 N fuel 110 (nI (k + 1)) (nI k) (nI (a + 40)) (am_wI (am_wI M 140 (a + (k + 1)) (am_I M 140 (a + k))) 140 (a + k) (am_I M 140 (a + (k + 1)))) := by
  show fn12_trades_b2B N (fn12_trades_b2 N fuel) 110 (nI (k + 1)) (nI k) (nI a) M = _
  have e1 := nI_add a k
  have e2 := nI_add a (k + 1)
  have e5 : nI a + 40 = nI (a + 40) := nI_add a 40
  have i1 : am_in (nI (a + k)) 124 = true := nk_in (by omega) (by decide)
  have i2 : am_in (nI (a + (k + 1))) 124 = true := nk_in (by omega) (by decide)
  have l1 : (nI (a + k)).toNatClampNeg = a + k := nI_clamp (by omega)
  have l2 : (nI (a + (k + 1))).toNatClampNeg = a + (k + 1) := nI_clamp (by omega)
  have h84 : ¬ (84 : Int32) < nI a := nI_nlt (a := 84) (by omega) (by decide)
  unfold fn12_trades_b2B fn12_trades_b18
  simp only [h84, if_false, nk_k, sk110 s, sr110_48 s, sk140 s, sl140 s, eq_self, decide_true, nk_ck, nk_ck, e1, e2, e5, i1, i2, l1, l2]
theorem ro_trade {N : Nat} (hN : 100000 ≤ N) {M : am_Mem} {n k : Nat} {w h : Int32} {f : Nat → Sq} (s : Shp M) (c : RoC M n w h f) (hn : n ≤ 40) (hk : k + 1 < n) : ∃ M', fn12_trades N M 110 (nI (k + 1)) (nI k) = some ((), M') ∧ Fs [140] M M' ∧ RoC M' n w h (swp f k) := by
  obtain ⟨g, hg⟩ : ∃ g, N = g + 1 + 1 + 1 + 1 := ⟨N - 4, by omega⟩
  have m140 : (140 : Nat) ∈ [140] := List.mem_cons_self
  obtain ⟨c1, c2, c3, c3', c4⟩ := c
  refine ⟨am_wI (am_wI (am_wI (am_wI (am_wI (am_wI M 140 (4 + (k + 1)) (f k).1) 140 (4 + k) (f (k + 1)).1) 140 (44 + (k + 1)) (f k).2.1) 140 (44 + k) (f (k + 1)).2.1) 140 (84 + (k + 1)) (f k).2.2) 140 (84 + k) (f (k + 1)).2.2, ?_, fs_trans (fs_trans (fs_trans (fs_trans (fs_trans (fs_wI _ _ _ m140) (fs_wI _ _ _ m140)) (fs_wI _ _ _ m140)) (fs_wI _ _ _ m140)) (fs_wI _ _ _ m140)) (fs_wI _ _ _ m140), ?_⟩
  · obtain ⟨a1, a2, a3⟩ := c4 k (by omega)
    obtain ⟨b1, b2, b3⟩ := c4 (k + 1) hk
    show fn12_trades_b2 N N 110 (nI (k + 1)) (nI k) (nI 4) M = _
    rw [show fn12_trades_b2 N N = fn12_trades_b2 N (g + 1 + 1 + 1 + 1) from by rw [← hg]]
    have s1 : Shp (am_wI (am_wI M 140 (4 + (k + 1)) (f k).1) 140 (4 + k) (f (k + 1)).1) := s
    have q1 := ro_trade1 (N := N) (fuel := g + 1 + 1 + 1) (a := 4) s (show k + 1 < 40 by omega) (by omega)
    rw [a1, b1] at q1
    have q2 := ro_trade1 (N := N) (fuel := g + 1 + 1) (a := 44) s1 (show k + 1 < 40 by omega) (by omega)
    simp (disch := omega) only [rI_ix, a2, b2] at q2
    have s2 : Shp (am_wI (am_wI (am_wI (am_wI M 140 (4 + (k + 1)) (f k).1) 140 (4 + k) (f (k + 1)).1) 140 (44 + (k + 1)) (f k).2.1) 140 (44 + k) (f (k + 1)).2.1) := s
    have q3 := ro_trade1 (N := N) (fuel := g + 1) (a := 84) s2 (show k + 1 < 40 by omega) (by omega)
    simp (disch := omega) only [rI_ix, a3, b3] at q3
    refine q1.trans (q2.trans (q3.trans ?_))
    show fn12_trades_b2B N (fn12_trades_b2 N g) 110 (nI (k + 1)) (nI k) (nI 124) _ = _
    unfold fn12_trades_b2B
    rw [if_pos (show (84 : Int32) < nI 124 from by decide)]
  · refine ⟨?_, ?_, ?_, ?_, fun j hj => ?_⟩
    · simp (disch := omega) only [rI_ix, c1]
    · simp (disch := omega) only [rI_ix, c2]
    · simp (disch := omega) only [rI_ix, c3]
    · simp (disch := omega) only [rI_ix, c3']
    · by_cases e : j = k
      · subst e
        rw [swp_j]
        simp (disch := omega) only [rI_ix, rI_eq, and_self]
      · by_cases e1 : j = k + 1
        · subst e1
          rw [swp_j1]
          simp (disch := omega) only [rI_ix, rI_eq, and_self]
        · rw [swp_lo f e e1]
          obtain ⟨a1, a2, a3⟩ := c4 j hj
          simp (disch := omega) only [rI_ix, a1, a2, a3, and_self]
theorem ro_ins {N : Nat} (hN : 100000 ≤ N) {K : Nat → Int32 → am_Mem → Option (Int32 × am_Mem)} {n i : Nat} {w h : Int32} (hn : n ≤ 40) (hi : i < n) : ∀ j f M fuel, j ≤ i → j < fuel → Shp M → RoC M n w h f → ∃ M', fn12_makes_b14 N K fuel 110 (nI i) (nI j) M = K 110 (nI (i + 1)) M' ∧ Fs [140] M M' ∧ RoC M' n w h (swF j f) := by
  intro j
  induction j with
  | zero =>
    intro f M fuel hj hf s c
    obtain ⟨g, rfl⟩ : ∃ g, fuel = g + 1 := ⟨fuel - 1, by omega⟩
    refine ⟨M, ?_, fs_refl _ _, c⟩
    show fn12_makes_b14B N K (fn12_makes_b14 N K g) 110 (nI i) (nI 0) M = _
    unfold fn12_makes_b14B fn12_makes_b43
    rw [if_pos (show nI 0 ≤ 0 from by decide), nI_1]
  | succ j ih =>
    intro f M fuel hj hf s c
    obtain ⟨g, rfl⟩ : ∃ g, fuel = g + 1 := ⟨fuel - 1, by omega⟩
    have hz : ¬ nI (j + 1) ≤ 0 := nI_nle (by omega) (by omega)
    have e1 : nI (j + 1) - 1 = nI j := nI_pred j
    have e2 : nI (j + 1) + (-1) = nI j := pk_m1 j
    have ha := ro_ahead s c hn (k := j) (by omega)
    unfold swF
    by_cases hg : gtQ (f j) (f (j + 1)) = true
    · rw [if_pos hg]
      obtain ⟨M1, e3, f1, c1⟩ := ro_trade hN s c hn (k := j) (by omega)
      obtain ⟨M', e, f2, c2⟩ := ih (swp f j) M1 g (by omega) (by omega) (fs_shp f1 s) c1
      refine ⟨M', ?_, fs_trans f1 f2, c2⟩
      rw [← e]
      show fn12_makes_b14B N K (fn12_makes_b14 N K g) 110 (nI i) (nI (j + 1)) M = _
      unfold fn12_makes_b14B
      rw [if_neg hz, nk_k, sk110 s, nk_dd, e1, ha, nk_bd, if_pos hg, if_neg z_1, nk_k, sk110 s, nk_dd, e3, nk_bd, e2]
    · rw [if_neg hg]
      refine ⟨M, ?_, fs_refl _ _, c⟩
      show fn12_makes_b14B N K (fn12_makes_b14 N K g) 110 (nI i) (nI (j + 1)) M = _
      unfold fn12_makes_b14B fn12_makes_b43
      rw [if_neg hz, nk_k, sk110 s, nk_dd, e1, ha, nk_bd, if_neg hg, if_pos rfl, nI_1]
theorem ro_srt {N : Nat} (hN : 100000 ≤ N) {n : Nat} {w h : Int32} (hn : n ≤ 40) : ∀ k i f M fuel, 1 ≤ i → i + k = n ∨ (k = 0 ∧ n ≤ i) → k < fuel → Shp M → RoC M n w h f → i < 50 → ∃ M', fn12_makes_b2 N fuel 110 (nI i) M = fn12_makes_b51 N N 110 0 M' ∧ Fs [140] M M' ∧ RoC M' n w h (srt k i f) := by
  intro k
  induction k with
  | zero =>
    intro i f M fuel h1 hi hf s c hi5
    obtain ⟨g, rfl⟩ : ∃ g, fuel = g + 1 := ⟨fuel - 1, by omega⟩
    refine ⟨M, ?_, fs_refl _ _, c⟩
    show fn12_makes_b2B N (fn12_makes_b2 N g) 110 (nI i) M = _
    unfold fn12_makes_b2B
    rw [nk_k, sk110 s, nk_dd, sr110_48 s, nk_k, sk140 s, nk_dd, sl140 s, show am_in 0 124 = true from rfl, nk_ck, show ((0 : Int32).toNatClampNeg) = 0 from rfl, c.1, if_pos (nI_le (by omega) (by omega))]
  | succ k ih =>
    intro i f M fuel h1 hi hf s c hi5
    obtain ⟨g, rfl⟩ : ∃ g, fuel = g + 1 := ⟨fuel - 1, by omega⟩
    have hin' : i < n := by omega
    obtain ⟨M1, e1, f1, c1⟩ := ro_ins hN (K := fn12_makes_b2 N g) hn hin' i f M N (Nat.le_refl _) (by omega) s c
    obtain ⟨M2, e2, f2, c2⟩ := ih (i + 1) _ M1 g (by omega) (by omega) (by omega) (fs_shp f1 s) c1 (by omega)
    refine ⟨M2, ?_, fs_trans f1 f2, c2⟩
    show fn12_makes_b2B N (fn12_makes_b2 N g) 110 (nI i) M = _
    unfold fn12_makes_b2B
    rw [nk_k, sk110 s, nk_dd, sr110_48 s, nk_k, sk140 s, nk_dd, sl140 s, show am_in 0 124 = true from rfl, nk_ck, show ((0 : Int32).toNatClampNeg) = 0 from rfl, c.1, if_neg (nI_ge (by omega) (by omega)), e1, e2]
