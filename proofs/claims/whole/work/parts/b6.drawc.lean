def sqI (q : Sqn) : Sq := (nI q.1, nI q.2.1, nI q.2.2)
def dF (L : List (Nat × Nat)) (W k : Nat) : Sq := sqI (sqO (dO L W k) (vN L k))
/-- drawn numbers, as the class holds them -/
def LsC (M : am_Mem) (i : Nat) (L : List (Nat × Nat)) : Prop := ∀ k, k < L.length → am_I M (8 + i) k = nI (vN L k) ∧ am_I M (15 + i) k = nI (gN L k)
theorem out_22 {M : am_Mem} (s : Shp M) : OuT M 22 25 := ⟨sk22 s, sr22_0 s, sr22_1 s, sk23 s, sk24 s, sl23 s, sl24 s⟩
section
variable {N i : Nat} {L : List (Nat × Nat)} {W : Nat}
theorem gs_cl (hi : i < 6) (h : LsOk L) (hg : ∀ k, k < L.length → gN L k < 25) {k : Nat} (hk : k < L.length) {M : am_Mem} (s : Shp M) (lc : LsC M i L) (e1 : am_I M 21 1 = nI k) : ∀ m j fuel x, j + m = L.length → m < fuel → fn1_groupSum_b9 N fuel 21 (8 + i) (15 + i) (nI L.length) (nI x) (nI j) M = some (nI (x + rsF L (gN L k) m j), M) := by
  obtain ⟨_, k8, l8, _, k15, l15⟩ := s8t s hi
  have l24 := h.2.1
  intro m
  induction m with
  | zero =>
    intro j fuel x hj hf
    obtain ⟨g, rfl⟩ : ∃ g, fuel = g + 1 := ⟨fuel - 1, by omega⟩
    show fn1_groupSum_b9B N (fn1_groupSum_b9 N g) 21 (8 + i) (15 + i) (nI L.length) (nI x) (nI j) M = _
    unfold fn1_groupSum_b9B fn1_groupSum_b43
    rw [if_pos (nI_le (by omega) (by omega))]
    rfl
  | succ m ih =>
    intro j fuel x hj hf
    obtain ⟨g, rfl⟩ : ∃ g, fuel = g + 1 := ⟨fuel - 1, by omega⟩
    have e : rsF L (gN L k) (m + 1) j = if gN L j = gN L k then vN L j + rsF L (gN L k) m (j + 1) else 0 := rfl
    obtain ⟨vj, gj⟩ := lc j (by omega)
    have gk := (lc k hk).2
    have g1 := hg j (by omega)
    have g2 := hg k hk
    show fn1_groupSum_b9B N (fn1_groupSum_b9 N g) 21 (8 + i) (15 + i) (nI L.length) (nI x) (nI j) M = _
    unfold fn1_groupSum_b9B fn1_groupSum_b43 fn1_groupSum_b37
    rw [if_neg (nI_ge (by omega) (by omega)), nk_k, k15, nk_dd, l15, nk_in (show j < 29 by omega) (by decide), nk_ck, nk_k, sk21 s, nk_dd, e1, nk_in (show k < 29 by omega) (by decide), nk_ck, nI_clamp (show j < 2147483648 by omega), nI_clamp (show k < 2147483648 by omega), gj, gk, e]
    by_cases q : gN L j = gN L k
    · rw [if_pos (congrArg nI q), if_pos q, nk_k, k8, nk_dd, l8, nk_in (show j < 29 by omega) (by decide), nk_ck, vj, lw_add, nI_1, ih (j + 1) g (x + vN L j) (by omega) (by omega), Nat.add_assoc]
    · rw [if_neg (fun z => q (nI_inj (by omega) (by omega) z)), if_neg q]
      rfl
theorem gs_ck (hN : 100000 ≤ N) (hi : i < 6) (h : LsOk L) (hg : ∀ k, k < L.length → gN L k < 25) {k : Nat} (hk : k < L.length) {M : am_Mem} (s : Shp M) (lc : LsC M i L) (e1 : am_I M 21 1 = nI k) : fn1_groupSum N M 21 (8 + i) (15 + i) (nI L.length) = some (nI (grS L k), M) := by
  have l24 := h.2.1
  unfold fn1_groupSum fn1_groupSum_b0
  have := gs_cl (N := N) hi h hg hk s lc e1 (L.length - k) k N 0 (by omega) (by omega)
  rw [Nat.zero_add] at this
  rw [nk_k, sk21 s, nk_dd, e1]
  exact this
def dcW : List Nat := [21, 22, 23, 24, 89, 90, 91, 92]
/-- what the class holds when j squares are laid -/
def DrS (M : am_Mem) (L : List (Nat × Nat)) (W j : Nat) : Prop := am_I M 21 1 = nI j ∧ OuC M 22 (dO L W j) W ∧ DrC M 89 j (nI W) 0 (dF L W)
theorem lg_c (hN : 100000 ≤ N) (hi : i < 6) (h : LsOk L) (hW : W = grS L 0) (hg : ∀ k, k < L.length → gN L k < 25) {f : Nat} (hf1 : f < L.length) : ∀ m j fuel M, j + m = L.length → f ≤ j → m < fuel → Shp M → LsC M i L → (∀ y, y < j → ¬ flA L W y) → (j = f → ¬ flA L W f) → (∀ y, f ≤ y → y < j → gN L y = gN L f) → DrS M L W j → ∃ j' M', j ≤ j' ∧ j' ≤ L.length ∧ fn1_layGroup_b10 N fuel 21 (8 + i) (15 + i) (nI L.length) 89 (nI f) (nI j) M = some ((), M') ∧ Fs dcW M M' ∧ DrS M' L W j' ∧ (∀ y, y < j' → ¬ flA L W y) ∧ (j' < L.length → isS L j') ∧ (f = j → j < j') := by
  have l24 := h.2.1
  have w0 := hW
  have wl : W ≤ 240000 := by
    have := rsF_le h (gN L 0) (L.length - 0) 0 (by omega)
    rw [hW]
    unfold grS
    omega
  intro m
  induction m with
  | zero =>
    intro j fuel M hj hfj hf s lc nf jf eg d
    obtain ⟨g, rfl⟩ : ∃ g, fuel = g + 1 := ⟨fuel - 1, by omega⟩
    refine ⟨j, M, Nat.le_refl j, by omega, ?_, fs_refl _ _, d, nf, fun z => by omega, fun z => by omega⟩
    show fn1_layGroup_b10B N (fn1_layGroup_b10 N g) 21 (8 + i) (15 + i) (nI L.length) 89 (nI f) (nI j) M = _
    unfold fn1_layGroup_b10B fn1_layGroup_b77
    rw [if_pos (nI_le (by omega) (by omega))]
  | succ m ih =>
    intro j fuel M hj hfj hf s lc nf jf eg d
    obtain ⟨g, rfl⟩ : ∃ g, fuel = g + 1 := ⟨fuel - 1, by omega⟩
    obtain ⟨_, k8, l8, _, k15, l15⟩ := s8t s hi
    have jl : j < L.length := by omega
    obtain ⟨vj, gj⟩ := lc j jl
    have gf := (lc f hf1).2
    have g1 := hg j jl
    have g2 := hg f hf1
    obtain ⟨d1, d2, d3⟩ := d
    have hd : fn1_layGroup_b10 N (g + 1) 21 (8 + i) (15 + i) (nI L.length) 89 (nI f) (nI j) M = fn1_layGroup_b10B N (fn1_layGroup_b10 N g) 21 (8 + i) (15 + i) (nI L.length) 89 (nI f) (nI j) M := rfl
    by_cases q : gN L j = gN L f
    · have nfj : ¬ flA L W j := by
        by_cases e : j = f
        · rw [e]; exact jf e
        · intro c
          rcases c.1 with z | z
          · omega
          · exact z (by rw [q, eg (j - 1) (by omega) (by omega)])
      obtain ⟨⟨i1, i2, i3, i4, i5, i6⟩, i7, _⟩ := dr_inv h hW j (by omega) nf
      obtain ⟨v1, v2⟩ := i7 jl nfj
      have nl := nt_lt i1
      have vb := h.2.2 j jl
      have dpn : dpO (dO L W j) (ntO (dO L W j)) ≤ j * 10000 := i5 _ nl
      have lf := oc_left (out_22 s) (by decide) (by omega) i1 d2
      have dp := oc_depth (out_22 s) (by decide) (by omega) i1 d2
      obtain ⟨M1, a1, a2, a3⟩ := dr_add (x := nI (bgO (dO L W j) (ntO (dO L W j)))) (y := nI (dpO (dO L W j) (ntO (dO L W j)))) (s := nI (vN L j)) (drt_89 s) d3 (show j < 40 by omega) rfl
      have s1 := fs_shp a2 s
      have k1 : ∀ y, y < 89 → am_I M1 y = am_I M y := fun y hy => fs_I a2 (by unfold dW; simp; omega)
      have c1 : OuC M1 22 (dO L W j) W := by
        unfold OuC
        rw [k1 22 (by decide), k1 (22 + 1) (by decide), k1 (22 + 2) (by decide)]
        exact d2
      obtain ⟨M2, b1, b2, b3⟩ := oc_lay (N := N) (o := 22) (cap := 25) hN (by decide) (by omega) i1 (by omega) v1 v2 (fun k hk => by have := i5 k hk; show ((dO L W j).getD k (0, 0)).2 < 2147483648; omega) (by omega) (out_22 s1) c1
      have s2 := fs_shp b2 s1
      have k2 : ∀ y, ¬ y = 22 → ¬ y = 23 → ¬ y = 24 → am_I M2 y = am_I M1 y := fun y y1 y2 y3 => fs_I b2 (by simp; omega)
      have e21 : am_I M2 21 1 = nI j := by rw [k2 21 (by decide) (by decide) (by decide), k1 21 (by decide)]; exact d1
      have f3 : Fs dcW M (am_wI M2 21 1 (nI (j + 1))) := fs_trans (fs_mono a2 (by unfold dW dcW; simp)) (fs_trans (fs_mono b2 (by unfold dcW; simp)) (fs_wI _ _ _ (by decide)))
      have st : fn1_layGroup_b10 N (g + 1) 21 (8 + i) (15 + i) (nI L.length) 89 (nI f) (nI j) M = fn1_layGroup_b10 N g 21 (8 + i) (15 + i) (nI L.length) 89 (nI f) (nI (j + 1)) (am_wI M2 21 1 (nI (j + 1))) := by
        rw [hd]
        unfold fn1_layGroup_b10B
        obtain ⟨_, k81, l81, _, _, _⟩ := s8t s1 hi
        rw [if_neg (nI_ge (by omega) (by omega)), nk_k, k15, nk_dd, l15, nk_in (show j < 29 by omega) (by decide), nk_ck, nk_in (show f < 29 by omega) (by decide), nk_ck, nI_clamp (show j < 2147483648 by omega), nI_clamp (show f < 2147483648 by omega), gj, gf, if_pos (congrArg nI q), nk_k, sk21 s, nk_dd, sr21_0 s, nk_k, sk22 s, nk_dd, lf, nk_bd, nk_k, sk21 s, nk_dd, sr21_0 s, nk_k, sk22 s, nk_dd, dp, nk_bd, nk_k, k8, nk_dd, l8, nk_in (show j < 29 by omega) (by decide), nk_ck, nk_k, sk89 s, nk_dd, vj, a1, nk_bd, nk_k, sk21 s1, nk_dd, nk_k, k81, nk_dd, l81, nk_in (show j < 29 by omega) (by decide), nk_ck, sr21_0 s1, nk_k, sk22 s1, nk_dd, k1 (8 + i) (by omega), vj, b1, nk_bd, nk_k, sk21 s2, nk_dd, e21, nI_1]
      rw [st]
      have o3 : ∀ y, ¬ y = 21 → am_I (am_wI M2 21 1 (nI (j + 1))) y = am_I M2 y := fun y hy => by rw [rI_ne _ _ _ hy]
      have ds3 : DrS (am_wI M2 21 1 (nI (j + 1))) L W (j + 1) := by
        refine ⟨rI_eq _ _ _ _, ?_, ?_⟩
        · unfold OuC
          rw [o3 22 (by decide), o3 (22 + 1) (by decide), o3 (22 + 2) (by decide)]
          exact b3
        · unfold DrC
          rw [o3 89 (by decide), o3 (89 + 1) (by decide), o3 (89 + 2) (by decide), o3 (89 + 3) (by decide), k2 89 (by decide) (by decide) (by decide), k2 (89 + 1) (by decide) (by decide) (by decide), k2 (89 + 2) (by decide) (by decide) (by decide), k2 (89 + 3) (by decide) (by decide) (by decide)]
          exact a3
      have lc3 : LsC (am_wI M2 21 1 (nI (j + 1))) i L := fun y hy => by
        rw [o3 (8 + i) (by omega), o3 (15 + i) (by omega), k2 (8 + i) (by omega) (by omega) (by omega), k2 (15 + i) (by omega) (by omega) (by omega), k1 (8 + i) (by omega), k1 (15 + i) (by omega)]
        exact lc y hy
      obtain ⟨j', M', p1, p2, p3, p4, p5, p6, p7, p8⟩ := ih (j + 1) g _ (by omega) (by omega) (by omega) (fs_shp f3 s) lc3 (fun y hy => by
        by_cases e : y = j
        · rw [e]; exact nfj
        · exact nf y (by omega)) (fun z => by omega) (fun y y1 y2 => by
        by_cases e : y = j
        · rw [e]; exact q
        · exact eg y y1 (by omega)) ds3
      exact ⟨j', M', by omega, p2, p3, fs_trans f3 p4, p5, p6, p7, fun _ => by omega⟩
    · have jf' : ¬ j = f := fun e => q (by rw [e])
      refine ⟨j, M, Nat.le_refl j, by omega, ?_, fs_refl _ _, ⟨d1, d2, d3⟩, nf, fun _ => Or.inr ?_, fun z => absurd z.symm jf'⟩
      · rw [hd]
        unfold fn1_layGroup_b10B fn1_layGroup_b77
        rw [if_neg (nI_ge (by omega) (by omega)), nk_k, k15, nk_dd, l15, nk_in (show j < 29 by omega) (by decide), nk_ck, nk_in (show f < 29 by omega) (by decide), nk_ck, nI_clamp (show j < 2147483648 by omega), nI_clamp (show f < 2147483648 by omega), gj, gf, if_neg (fun z => q (nI_inj (by omega) (by omega) z))]
      · rw [eg (j - 1) (by omega) (by omega)]
        exact q
/-- what laying the groups comes to -/
def DrE (M : am_Mem) (L : List (Nat × Nat)) (W : Nat) (v : Int32) : Prop := (∃ k, k < L.length ∧ flA L W k ∧ (∀ y, y < k → ¬ flA L W y) ∧ v = 0 ∧ am_I M 21 1 = nI k) ∨ ((∀ y, y < L.length → ¬ flA L W y) ∧ am_I M 21 1 = nI L.length ∧ ((v = 1 ∧ (dO L W L.length).length = 1 ∧ DrC M 89 L.length (nI W) (nI (dpO (dO L W L.length) (ntO (dO L W L.length)))) (dF L W)) ∨ (v = 0 ∧ ¬ (dO L W L.length).length = 1)))
theorem lgs_c (hN : 100000 ≤ N) (hi : i < 6) (h : LsOk L) (hW : W = grS L 0) (hg : ∀ k, k < L.length → gN L k < 25) : ∀ m x j fuel M, x + m = L.length → x ≤ j → j ≤ L.length → m < fuel → Shp M → LsC M i L → (∀ y, y < j → ¬ flA L W y) → (j < L.length → isS L j) → DrS M L W j → ∃ v M', fn1_layGroups_b34 N fuel 21 (8 + i) (15 + i) (nI L.length) 89 (nI x) M = some (v, M') ∧ Fs dcW M M' ∧ DrE M' L W v := by
  have l24 := h.2.1
  have wl : W ≤ 240000 := by
    have := rsF_le h (gN L 0) (L.length - 0) 0 (by omega)
    rw [hW]
    unfold grS
    omega
  have fini : ∀ M, Shp M → (∀ y, y < L.length → ¬ flA L W y) → DrS M L W L.length → ∃ v M', fn1_layGroups_b82 N 21 89 M = some (v, M') ∧ Fs dcW M M' ∧ DrE M' L W v := by
    intro M s nf d
    obtain ⟨d1, d2, d3⟩ := d
    obtain ⟨⟨i1, i2, i3, i4, i5, i6⟩, _, _⟩ := dr_inv h hW L.length (Nat.le_refl _) nf
    have dp := oc_depth (out_22 s) (by decide) (by omega) i1 d2
    have o1 : ∀ y, ¬ y = 89 → am_I (am_wI M 89 5 (nI (dpO (dO L W L.length) (ntO (dO L W L.length))))) y = am_I M y := fun y hy => by rw [rI_ne _ _ _ hy]
    have dc : DrC (am_wI M 89 5 (nI (dpO (dO L W L.length) (ntO (dO L W L.length))))) 89 L.length (nI W) (nI (dpO (dO L W L.length) (ntO (dO L W L.length)))) (dF L W) := by
      obtain ⟨c1, c2, c3, c4⟩ := d3
      refine ⟨by rw [rI_ix _ _ _ (by decide)]; exact c1, by rw [rI_ix _ _ _ (by decide)]; exact c2, rI_eq _ _ _ _, fun k hk => ?_⟩
      rw [o1 (89 + 1) (by decide), o1 (89 + 2) (by decide), o1 (89 + 3) (by decide)]
      exact c4 k hk
    have f1 : Fs dcW M (am_wI M 89 5 (nI (dpO (dO L W L.length) (ntO (dO L W L.length))))) := fs_wI _ _ _ (by decide)
    have e3 : am_I (am_wI M 89 5 (nI (dpO (dO L W L.length) (ntO (dO L W L.length))))) 22 3 = nI (dO L W L.length).length := by rw [o1 22 (by decide)]; exact d2.2.1
    have e21 : am_I (am_wI M 89 5 (nI (dpO (dO L W L.length) (ntO (dO L W L.length))))) 21 1 = nI L.length := by rw [o1 21 (by decide)]; exact d1
    unfold fn1_layGroups_b82 fn1_layGroups_b110
    rw [nk_k, sk21 s, nk_dd, sr21_0 s, nk_k, sk22 s, nk_dd, dp, nk_bd, nk_k, sk89 s, nk_dd, nk_k, sk21 s, nk_dd, sr21_0 s, nk_k, sk22 s, nk_dd, e3]
    by_cases q : (dO L W L.length).length = 1
    · rw [if_pos (show nI (dO L W L.length).length = (1 : Int32) by rw [q]; rfl), show ((1 : Int32) == 0 || (1 : Int32) == 1) = true from rfl, nk_ck]
      exact ⟨1, _, rfl, f1, Or.inr ⟨nf, e21, Or.inl ⟨rfl, q, dc⟩⟩⟩
    · rw [if_neg (show ¬ nI (dO L W L.length).length = (1 : Int32) from fun z => q (nI_inj (b := 1) (by omega) (by decide) z)), show ((0 : Int32) == 0 || (0 : Int32) == 1) = true from rfl, nk_ck]
      exact ⟨0, _, rfl, f1, Or.inr ⟨nf, e21, Or.inr ⟨rfl, q⟩⟩⟩
  intro m
  induction m with
  | zero =>
    intro x j fuel M hx hxj hj hf s lc nf js d
    obtain ⟨g, rfl⟩ : ∃ g, fuel = g + 1 := ⟨fuel - 1, by omega⟩
    have e : j = L.length := by omega
    subst e
    obtain ⟨v, M', a1, a2, a3⟩ := fini M s nf d
    refine ⟨v, M', ?_, a2, a3⟩
    show fn1_layGroups_b34B N (fn1_layGroups_b34 N g) 21 (8 + i) (15 + i) (nI L.length) 89 (nI x) M = _
    unfold fn1_layGroups_b34B
    rw [if_pos (nI_le (by omega) (by omega))]
    exact a1
  | succ m ih =>
    intro x j fuel M hx hxj hj hf s lc nf js d
    obtain ⟨g, rfl⟩ : ∃ g, fuel = g + 1 := ⟨fuel - 1, by omega⟩
    have hd : fn1_layGroups_b34 N (g + 1) 21 (8 + i) (15 + i) (nI L.length) 89 (nI x) M = fn1_layGroups_b34B N (fn1_layGroups_b34 N g) 21 (8 + i) (15 + i) (nI L.length) 89 (nI x) M := rfl
    by_cases jl : j < L.length
    · obtain ⟨⟨i1, i2, i3, i4, i5, i6⟩, i7, _⟩ := dr_inv h hW j (by omega) nf
      have gs := gs_ck (N := N) hN hi h hg jl s lc d.1
      have wd := oc_width (out_22 s) (by decide) (by omega) i1 d.2.1
      have gl : grS L j ≤ 240000 := by
        have := rsF_le h (gN L j) (L.length - j) j (by omega)
        unfold grS
        omega
      have wl2 : wdO (dO L W j) W ≤ 240000 := by
        have := bg_en i1 (nt_lt i1)
        unfold wdO
        omega
      have st : fn1_layGroups_b34 N (g + 1) 21 (8 + i) (15 + i) (nI L.length) 89 (nI x) M = (if nI (grS L j) = nI (wdO (dO L W j) W) then am_bd (fn1_layGroup N M 21 (8 + i) (15 + i) (nI L.length) 89) (fun v11 M12 => fn1_layGroups_b34 N g 21 (8 + i) (15 + i) (nI L.length) 89 (nI (x + 1)) M12) else some (0, M)) := by
        rw [hd]
        unfold fn1_layGroups_b34B
        rw [if_neg (nI_ge (by omega) (by omega)), nk_k, sk21 s, nk_dd, d.1, if_neg (nI_ge (by omega) (by omega)), gs, nk_bd, nk_k, sk21 s, nk_dd, sr21_0 s, nk_k, sk22 s, nk_dd, wd, nk_bd, nk_k, sk21 s, nk_dd, nI_1]
        rfl
      rw [st]
      by_cases q : grS L j = wdO (dO L W j) W
      · rw [if_pos (congrArg nI q)]
        have nfj : ¬ flA L W j := fun c => c.2 q
        obtain ⟨j', M1, p1, p2, p3, p4, p5, p6, p7, p8⟩ := lg_c (N := N) hN hi h hW hg jl (L.length - j) j N M (by omega) (Nat.le_refl j) (by omega) s lc nf (fun _ => nfj) (fun y y1 y2 => by omega) d
        have p3' : fn1_layGroup N M 21 (8 + i) (15 + i) (nI L.length) 89 = some ((), M1) := by
          unfold fn1_layGroup fn1_layGroup_b0 fn1_layGroup_b6
          rw [nk_k, sk21 s, nk_dd, d.1]
          exact p3
        rw [p3', nk_bd]
        have nm : ∀ y, 24 < y ∨ y < 21 → y < 89 → y ∉ dcW := fun y hy hy2 hm => by
          have : ∀ z ∈ dcW, (21 ≤ z ∧ z ≤ 24) ∨ 89 ≤ z := by decide
          have := this y hm
          omega
        obtain ⟨v, M', r1, r2, r3⟩ := ih (x + 1) j' g M1 (by omega) (by have := p8 rfl; omega) p2 (by omega) (fs_shp p4 s) (fun y hy => by
          rw [fs_I p4 (nm (8 + i) (by omega) (by omega)), fs_I p4 (nm (15 + i) (by omega) (by omega))]
          exact lc y hy) p6 p7 p5
        exact ⟨v, M', r1, fs_trans p4 r2, r3⟩
      · rw [if_neg (fun z => q (nI_inj (by omega) (by omega) z))]
        exact ⟨0, M, rfl, fs_refl _ _, Or.inl ⟨j, jl, ⟨js jl, q⟩, nf, rfl, d.1⟩⟩
    · have e : j = L.length := by omega
      subst e
      obtain ⟨v, M', a1, a2, a3⟩ := fini M s nf d
      refine ⟨v, M', ?_, a2, a3⟩
      rw [hd]
      unfold fn1_layGroups_b34B
      rw [if_neg (nI_ge (by omega) (by omega)), nk_k, sk21 s, nk_dd, d.1, if_pos (nI_le (Nat.le_refl _) (by omega))]
      exact a1
theorem lay_c {M : am_Mem} (hN : 100000 ≤ N) (hi : i < 6) (h : LsOk L) (hg : ∀ k, k < L.length → gN L k < 25) (s : Shp M) (lc : LsC M i L) : ∃ v M', fn1_layGroups N M 21 (8 + i) (15 + i) (nI L.length) 89 = some (v, M') ∧ Fs dcW M M' ∧ DrE M' L (grS L 0) v := by
  have p0 := h.1
  have f1 : Fs dcW M (am_wI M 21 1 0) := fs_wI _ _ _ (by decide)
  have s1 := fs_shp f1 s
  have nm : ∀ y, 24 < y ∨ y < 21 → y < 89 → y ∉ dcW := fun y hy hy2 hm => by
    have : ∀ z ∈ dcW, (21 ≤ z ∧ z ≤ 24) ∨ 89 ≤ z := by decide
    have := this y hm
    omega
  have lc1 : LsC (am_wI M 21 1 0) i L := fun y hy => by
    rw [fs_I f1 (nm (8 + i) (by omega) (by omega)), fs_I f1 (nm (15 + i) (by omega) (by omega))]
    exact lc y hy
  have e1 : am_I (am_wI M 21 1 0) 21 1 = nI 0 := rI_eq _ _ _ _
  have gs := gs_ck (N := N) hN hi h hg (show 0 < L.length by omega) s1 lc1 e1
  revert f1 s1 lc1 e1 gs
  generalize eM : am_wI M 21 1 0 = M1
  intro f1 s1 lc1 e1 gs
  obtain ⟨M2, a1, a2, a3⟩ := dr_begin (drt_89 s1) (nI (grS L 0)) 0 (dF L (grS L 0))
  have s2 := fs_shp a2 s1
  obtain ⟨M3, b1, b2, b3⟩ := oc_open (W := grS L 0) (out_22 s2) (by decide) (by decide)
  have s3 := fs_shp b2 s2
  have a2' : Fs dcW M1 M2 := fs_mono a2 (by unfold dW dcW; simp)
  have b2' : Fs dcW M2 M3 := fs_mono b2 (by unfold dcW; simp)
  have f13 : Fs dcW M1 M3 := fs_trans a2' b2'
  have ds : DrS M3 L (grS L 0) 0 := by
    refine ⟨?_, b3, ?_⟩
    · rw [fs_I b2 (by simp), fs_I a2 (by unfold dW; simp)]; exact e1
    · unfold DrC
      rw [fs_I b2 (show 89 ∉ [22, 22 + 1, 22 + 2] by decide), fs_I b2 (show 89 + 1 ∉ [22, 22 + 1, 22 + 2] by decide), fs_I b2 (show 89 + 2 ∉ [22, 22 + 1, 22 + 2] by decide), fs_I b2 (show 89 + 3 ∉ [22, 22 + 1, 22 + 2] by decide)]
      exact a3
  obtain ⟨v, M4, c1, c2, c3⟩ := lgs_c (N := N) hN hi h rfl hg L.length 0 0 N M3 (by omega) (Nat.le_refl 0) (by omega) (by have := h.2.1; omega) s3 (fun y hy => by
    rw [fs_I f13 (nm (8 + i) (by omega) (by omega)), fs_I f13 (nm (15 + i) (by omega) (by omega))]
    exact lc1 y hy) (fun y hy => absurd hy (Nat.not_lt_zero y)) (fun _ => Or.inl rfl) ds
  refine ⟨v, M4, ?_, fs_trans f1 (fs_trans f13 c2), c3⟩
  unfold fn1_layGroups fn1_layGroups_b0
  rw [nk_k, sk21 s, nk_dd, eM, gs, nk_bd, nk_k, sk89 s1, nk_dd, a1, nk_bd, nk_k, sk21 s2, nk_dd, sr21_0 s2, nk_k, sk22 s2, nk_dd, b1, nk_bd]
  exact c1
end
