/-- what a drawn line comes to -/
def DqR (L : List (Nat × Nat)) (q : Rc) (k : Nat) : Prop := (k < L.length ∧ flA L (grS L 0) k ∧ (∀ y, y < k → ¬ flA L (grS L 0) y) ∧ q = (1, 0, 0, [])) ∨ ((∀ y, y < L.length → ¬ flA L (grS L 0) y) ∧ k = L.length ∧ (((dO L (grS L 0) L.length).length = 1 ∧ q = (0, nI (grS L 0), nI (dpO (dO L (grS L 0) L.length) (ntO (dO L (grS L 0) L.length))), ofF (dF L (grS L 0)) L.length)) ∨ (¬ (dO L (grS L 0) L.length).length = 1 ∧ q = (1, 0, 0, []))))
theorem dq_uni {L : List (Nat × Nat)} {q q' : Rc} {k k' : Nat} (h : DqR L q k) (g : DqR L q' k') : q = q' ∧ k = k' := by
  rcases h with ⟨h1, h2, h3, h4⟩ | ⟨h1, h2, h3⟩
  · rcases g with ⟨g1, g2, g3, g4⟩ | ⟨g1, g2, g3⟩
    · refine ⟨by rw [h4, g4], ?_⟩
      by_cases a : k < k'
      · exact absurd h2 (g3 k a)
      · by_cases b : k' < k
        · exact absurd g2 (h3 k' b)
        · omega
    · exact absurd h2 (g1 k h1)
  · rcases g with ⟨g1, g2, g3, g4⟩ | ⟨g1, g2, g3⟩
    · exact absurd g2 (h1 k' g1)
    · refine ⟨?_, by omega⟩
      rcases h3 with ⟨a1, a2⟩ | ⟨a1, a2⟩
      · rcases g3 with ⟨b1, b2⟩ | ⟨b1, b2⟩
        · rw [a2, b2]
        · exact absurd a1 b1
      · rcases g3 with ⟨b1, b2⟩ | ⟨b1, b2⟩
        · exact absurd b1 a1
        · rw [a2, b2]
/-- what a net comes to -/
def qN (a b : Nat → Nat) (W n : Nat) : Rc := if 0 < fD a b W n ∧ (srN a b W n).1 = 1 then (0, nI (nW a b W n), nI (nH a b W n), ofF (fN (nSz a b W n) (nW a b W n) (srN a b W n).2.2) (cnN (nSz a b W n) W)) else (1, 0, 0, [])
def cN (a b : Nat → Nat) (W n : Nat) : Nat := if 0 < fD a b W n then (srN a b W n).2.1 else 0
theorem good_fl : Good (1, 0, 0, []) := Or.inl ⟨rfl, rfl, rfl, rfl⟩
theorem dq_good {L : List (Nat × Nat)} {q : Rc} {k : Nat} (h : LsOk L) (g : DqR L q k) : Good q := by
  rcases g with ⟨_, _, _, e⟩ | ⟨h1, _, h3⟩
  · rw [e]; exact good_fl
  · rcases h3 with ⟨a1, e⟩ | ⟨_, e⟩
    · rw [e]; exact Or.inr ⟨rfl, dr_geo h h1 a1⟩
    · rw [e]; exact good_fl
theorem qn_good {a b : Nat → Nat} {W n : Nat} (hn0 : 0 < n) (hW : W ≤ 14) : Good (qN a b W n) := by
  unfold qN
  by_cases c : 0 < fD a b W n ∧ (srN a b W n).1 = 1
  · rw [if_pos c]; exact Or.inr ⟨rfl, nt_geo hn0 hW c.1 c.2⟩
  · rw [if_neg c]; exact good_fl
/-- the wires of a line -/
def wA (d : Ld) (w : Nat) : Nat := d.2.2.2.getD (2 * w) 0
def wB (d : Ld) (w : Nat) : Nat := d.2.2.2.getD (2 * w + 1) 0
def wK (d : Ld) : Nat := d.2.2.2.length / 2
def pK (d : Ld) : Nat := d.2.2.1 - 1
/-- the class's net tells the net -/
def NcR (M : am_Mem) (u : Nat) (a b : Nat → Nat) (W n : Nat) : Prop := (141 < u ∧ u ≤ am_n M ∧ am_K M u = 3) ∧ am_J M u 4 = lI (fD a b W n) ∧ am_I M u 7 = nI (cN a b W n) ∧ am_I M u 0 = nI (n + 1) ∧ am_I M u 1 = nI W ∧ ArR M (am_R M u 2) (n + 1) ∧ ArR M (am_R M u 3) W ∧ (0 < fD a b W n → (∀ k, k < n + 1 → am_I M (am_R M u 2) k = iI (fL a b W n k)) ∧ ∀ k, k < W → am_I M (am_R M u 3) k = iI (fI a b W n k))
theorem ncr_dyn {M M' : am_Mem} {u : Nat} {a b : Nat → Nat} {W n : Nat} (d : Dyn M M') (h : NcR M u a b W n) : NcR M' u a b W n := by
  obtain ⟨⟨h1, h2, h3⟩, h4, h5, h6, h7, h8, h9, h10⟩ := h
  obtain ⟨k1, k2, k3, k4, k5⟩ := d.2 u h1 h2
  have n1 := d.1
  refine ⟨⟨h1, by omega, by rw [k1]; exact h3⟩, by rw [k5]; exact h4, by rw [k4]; exact h5, by rw [k4]; exact h6, by rw [k4]; exact h7, by rw [k3]; exact arr_dyn d h8, by rw [k3]; exact arr_dyn d h9, fun z => ?_⟩
  rw [k3, arr_I d h8, arr_I d h9]
  exact h10 z
/-- the class's tiling t tells what a line comes to -/
def LcT (M : am_Mem) (t : Nat) (d : Ld) (q : Rc) : Prop := TilR M t q ∧ Good q ∧ am_I M t 10 = -1 ∧ ((d.1 = 0 ∧ am_I M t 0 = 0 ∧ am_R M t 3 = 0 ∧ ∃ k, DqR d.2.1 q k ∧ am_I M t 2 = nI k) ∨ (d.1 = 1 ∧ am_I M t 0 = 1 ∧ q = qN (wA d) (wB d) (wK d) (pK d) ∧ 0 ≤ fD (wA d) (wB d) (wK d) (pK d) ∧ NcR M (am_R M t 3) (wA d) (wB d) (wK d) (pK d)))
theorem lct_dyn {M M' : am_Mem} {t : Nat} {d : Ld} {q : Rc} (dy : Dyn M M') (h : LcT M t d q) : LcT M' t d q := by
  obtain ⟨h1, h2, h3, h4⟩ := h
  obtain ⟨k1, k2, k3, k4, k5⟩ := dy.2 t h1.1.1 h1.1.2.1
  refine ⟨tilr_dyn dy h1, h2, by rw [k4]; exact h3, ?_⟩
  rw [k3, k4]
  rcases h4 with h4 | ⟨a1, a2, a3, a4, a5⟩
  · exact Or.inl h4
  · exact Or.inr ⟨a1, a2, a3, a4, ncr_dyn dy a5⟩
def txW : List Nat := [21, 22, 23, 24, 27, 28, 29, 30, 31, 32, 33, 34, 35, 36, 37, 38, 39, 41, 42, 43, 44, 45, 46, 47, 48, 49, 50, 51, 52, 53, 54, 55, 56, 57, 58, 59, 60, 61, 62, 63, 64, 65, 66, 67, 68, 69, 70, 71, 72, 73, 74, 75, 76, 77, 78, 79, 80, 81, 82, 83, 84, 85, 86, 87, 88, 89, 90, 91, 92]
section
variable {N i : Nat} {M : am_Mem}
theorem ls_ok {d : Ld} (h : LdOk d) (d1 : d.1 = 0) : LsOk d.2.1 ∧ ∀ k, k < d.2.1.length → gN d.2.1 k < 25 := by
  rcases h with ⟨_, a, b, c, _, _⟩ | ⟨e, _⟩
  · have mem : ∀ k, k < d.2.1.length → d.2.1.getD k (0, 0) ∈ d.2.1 := fun k hk => by
      rw [List.getD_eq_getElem?_getD, List.getElem?_eq_getElem hk]
      exact List.getElem_mem hk
    exact ⟨⟨a, b, fun k hk => ⟨(c _ (mem k hk)).1, (c _ (mem k hk)).2.1⟩⟩, fun k hk => (c _ (mem k hk)).2.2⟩
  · omega
/-- a drawn line's tiling -/
theorem dt_c {d : Ld} (hN : 100000 ≤ N) (hi : i < 6) (s : Shp M) (ok : LdOk d) (d1 : d.1 = 0) (lc : LdC M i d) : ∃ t q M', fn11_drawnTiling N M 1 (nI i) = some (t, M') ∧ am_Fr txW M M' ∧ am_n M < t ∧ LcT M' t d q := by
  obtain ⟨ls, hg⟩ := ls_ok ok d1
  obtain ⟨r7, k8, l8, r14, k15, l15⟩ := s8t s hi
  have lc' : am_I M 6 i = nI d.2.1.length ∧ LsC M i d.2.1 := by
    rcases lc with ⟨_, _, h3, _, h5⟩ | ⟨e, _⟩
    · refine ⟨h3, fun k hk => ?_⟩
      unfold vN gN
      rw [List.getD_eq_getElem?_getD, List.getElem?_eq_getElem hk]
      exact h5 k hk
    · omega
  obtain ⟨v, M1, a1, a2, a3⟩ := lay_c (N := N) hN hi ls hg s lc'.2
  have s1 := fs_shp a2 s
  have n1 : am_n M1 = am_n M := a2.1
  have n141 := s1.1
  have fr1 : am_Fr txW M M1 := fs_fr (fs_mono a2 (by decide))
  have y1 : am_K (am_new M1 10 0) 1 = 11 := by rw [rK_new _ _ _ (by omega)]; exact sk1 s1
  have y2 : am_R (am_new M1 10 0) 1 1 = 21 := by rw [rR_new _ _ _ (by omega)]; exact sr1_1 s1
  have y3 : am_K (am_new M1 10 0) 21 = 1 := by rw [rK_new _ _ _ (by omega)]; exact sk21 s1
  have y4 : am_I (am_new M1 10 0) 21 1 = am_I M1 21 1 := by rw [rI_new _ _ _ (by omega)]
  have y5 : am_R (am_new M1 10 0) 1 4 = 89 := by rw [rR_new _ _ _ (by omega)]; exact sr1_4 s1
  have y6 : am_K (am_new M1 10 0) (am_n M1 + 1) = 10 := rK_new_eq _ _ _
  have st : fn11_drawnTiling N M 1 (nI i) = (if v = 0 then fn11_drawnTiling_b56 N (am_n M1 + 1) (am_n M1 + 1) (0 : Int32) 0 1 (am_new M1 10 0) else fn11_drawnTiling_b56 N (am_n M1 + 1) (am_n M1 + 1) (0 : Int32) 89 1 (am_new M1 10 0)) := by
    unfold fn11_drawnTiling fn11_drawnTiling_b0
    rw [nk_k, sk1 s, nk_dd, sr1_0 s, nk_k, sk2 s, nk_dd, sr2_11 s, nk_k, sk7 s, nk_dd, sl7 s, nk_in hi (by decide), nk_ck, sr2_12 s, nk_k, sk14 s, nk_dd, sl14 s, nk_in hi (by decide), nk_ck, sr2_10 s, nk_k, sk6 s, nk_dd, sl6 s, nk_in hi (by decide), nk_ck, sr1_1 s, nk_k, sk21 s, nk_dd, nI_clamp (by omega), r7, r14, lc'.1, sr1_4 s, a1, nk_bd, nk_k, y1, nk_dd, y5]
  have fin : ∀ dd, fn11_drawnTiling_b56 N (am_n M1 + 1) (am_n M1 + 1) (0 : Int32) dd 1 (am_new M1 10 0) = am_bd (fn10_init N (am_new M1 10 0) (am_n M1 + 1) 0 dd (am_I M1 21 1) 0) (fun v4 M5 => some (am_n M1 + 1, M5)) := fun dd => by
    unfold fn11_drawnTiling_b56
    rw [nk_k, y1, nk_dd, y2, nk_k, y3, nk_dd, nk_k, y6, nk_dd, y4]
  rw [st, fin, fin]
  have nofit : v = 0 → ∀ k, DqR d.2.1 (1, 0, 0, []) k → am_I M1 21 1 = nI k → ∃ t q M', (if v = 0 then am_bd (fn10_init N (am_new M1 10 0) (am_n M1 + 1) 0 0 (am_I M1 21 1) 0) (fun v4 M5 => some (am_n M1 + 1, M5)) else am_bd (fn10_init N (am_new M1 10 0) (am_n M1 + 1) 0 89 (am_I M1 21 1) 0) (fun v4 M5 => some (am_n M1 + 1, M5))) = some (t, M') ∧ am_Fr txW M M' ∧ am_n M < t ∧ LcT M' t d q := by
    intro v0 k dq e21
    obtain ⟨M2, b1, b2, b3, b4, b5, b6, b7⟩ := ti_none (N := N) (M0 := M1) (x1 := 0) (x3 := am_I M1 21 1) (r4 := 0) hN n141
    rw [if_pos v0, b1, nk_bd]
    exact ⟨am_n M1 + 1, _, M2, rfl, fr_trans fr1 (fr_mono b2 (fun a ha => absurd ha List.not_mem_nil)), by omega, b3, good_fl, b7, Or.inl ⟨d1, b4, b6, k, dq, b5.trans e21⟩⟩
  rcases a3 with ⟨k, k1, k2, k3, k4, k5⟩ | ⟨k1, k2, k3⟩
  · exact nofit k4 k (Or.inl ⟨k1, k2, k3, rfl⟩) k5
  · rcases k3 with ⟨z1, z2, z3⟩ | ⟨z1, z2⟩
    · obtain ⟨M2, b1, b2, b3, b4, b5, b6, b7⟩ := ti_new (N := N) (M0 := M1) (d := 89) (x1 := 0) (x3 := am_I M1 21 1) (r4 := 0) hN (by decide) (by decide) n141 (drt_89 s1) z3 (by have := ls.2.1; omega)
      have dq : DqR d.2.1 (0, nI (grS d.2.1 0), nI (dpO (dO d.2.1 (grS d.2.1 0) d.2.1.length) (ntO (dO d.2.1 (grS d.2.1 0) d.2.1.length))), ofF (dF d.2.1 (grS d.2.1 0)) d.2.1.length) d.2.1.length := Or.inr ⟨k1, rfl, Or.inl ⟨z2, rfl⟩⟩
      rw [z1, if_neg z_1, b1, nk_bd]
      exact ⟨am_n M1 + 1, _, M2, rfl, fr_trans fr1 (fr_mono b2 (fun a ha => absurd ha List.not_mem_nil)), by omega, b3, dq_good ls dq, b7, Or.inl ⟨d1, b4, b6, d.2.1.length, dq, b5.trans k2⟩⟩
    · exact nofit z1 d.2.1.length (Or.inr ⟨k1, rfl, Or.inr ⟨z2, rfl⟩⟩) k2
theorem nt_ok {d : Ld} (h : LdOk d) (d1 : d.1 = 1) : 0 < pK d ∧ pK d ≤ 8 ∧ d.2.2.1 = pK d + 1 ∧ wK d ≤ 14 ∧ d.2.2.2.length = 2 * wK d ∧ ∀ w, w < wK d → wA d w ≤ pK d ∧ wB d w ≤ pK d ∧ ¬ wA d w = wB d w := by
  rcases h with ⟨e, _⟩ | ⟨_, _, a, b, j, c, e, f, g⟩
  · omega
  · have ej : wK d = j := by unfold wK; omega
    have mem : ∀ k, k < d.2.2.2.length → d.2.2.2.getD k 0 ∈ d.2.2.2 := fun k hk => by
      rw [List.getD_eq_getElem?_getD, List.getElem?_eq_getElem hk]
      exact List.getElem_mem hk
    have ep : d.2.2.1 = pK d + 1 := by unfold pK; omega
    refine ⟨by unfold pK; omega, by unfold pK; omega, ep, by omega, by omega, fun w hw => ?_⟩
    have h1 := f _ (mem (2 * w) (by omega))
    have h2 := f _ (mem (2 * w + 1) (by omega))
    unfold wA wB
    exact ⟨by omega, by omega, g w (by omega)⟩
/-- a net's tiling -/
theorem nt_tc {d : Ld} (hN : 100000 ≤ N) (hi : i < 6) (s : Shp M) (ok : LdOk d) (d1 : d.1 = 1) (lc : LdC M i d) : ∃ t q M', fn11_netTiling N M 1 (nI i) = some (t, M') ∧ am_Fr txW M M' ∧ am_n M < t ∧ LcT M' t d q := by
  obtain ⟨p0, p8, pe, w14, wl, wf⟩ := nt_ok ok d1
  obtain ⟨r7, k8, l8, _, _, _⟩ := s8t s hi
  obtain ⟨c6, c0, cw⟩ : am_I M 6 i = nI (1 + 2 * wK d) ∧ am_I M (8 + i) 0 = nI (pK d + 1) ∧ ∀ x, x < wK d → am_I M (8 + i) (1 + 2 * x) = nI (wA d x) ∧ am_I M (8 + i) (2 + 2 * x) = nI (wB d x) := by
    rcases lc with ⟨e, _⟩ | ⟨_, _, h3, _, h5, h6⟩
    · omega
    · refine ⟨by rw [h3, wl], by rw [h5, pe], fun x hx => ?_⟩
      have e1 := h6 (2 * x) (by omega)
      have e2 := h6 (2 * x + 1) (by omega)
      rw [show 1 + (2 * x + 1) = 2 + 2 * x by omega] at e2
      unfold wA wB
      rw [List.getD_eq_getElem?_getD, List.getElem?_eq_getElem (show 2 * x < d.2.2.2.length by omega), List.getD_eq_getElem?_getD, List.getElem?_eq_getElem (show 2 * x + 1 < d.2.2.2.length by omega)]
      exact ⟨e1, e2⟩
  obtain ⟨M1, a1, a2, a3, a4, a5, a6, a7, a8, a9, a10⟩ := so_c (N := N) (a := wA d) (b := wB d) hN hi p8 p0 w14 wf s c0 cw
  have n141 := s.1
  have s1 := shp_fr s a2
  have n1411 := s1.1
  have fr1 : am_Fr txW M M1 := fr_mono a2 (by decide)
  obtain ⟨t1, t2, t3, t4, t5, t6, t7, t8, t9⟩ := id a4
  have hd := fd_le (a := wA d) (b := wB d) w14 (pK d)
  have fin : ∀ M2 fl dd, Shp M2 → (fl = 0 ∧ dd = 0 ∨ fl = 1 ∧ dd = 89) → fn11_netTiling_b62 N fl 1 (am_n M + 1) M2 = am_bd (fn10_init N (am_new M2 10 0) (am_n M2 + 1) 1 dd 0 (am_n M + 1)) (fun v2 M3 => some (am_n M2 + 1, M3)) := by
    intro M2 fl dd s2 h
    have n2 := s2.1
    have y1 : am_K (am_new M2 10 0) 1 = 11 := by rw [rK_new _ _ _ (by omega)]; exact sk1 s2
    have y5 : am_R (am_new M2 10 0) 1 4 = 89 := by rw [rR_new _ _ _ (by omega)]; exact sr1_4 s2
    have y6 : am_K (am_new M2 10 0) (am_n M2 + 1) = 10 := rK_new_eq _ _ _
    unfold fn11_netTiling_b62 fn11_netTiling_b80
    rcases h with ⟨h1, h2⟩ | ⟨h1, h2⟩
    · rw [h1, h2, if_pos rfl, nk_k, y6, nk_dd]
    · rw [h1, h2, if_neg z_1, nk_k, y1, nk_dd, nk_k, y6, nk_dd, y5]
  have st : fn11_netTiling N M 1 (nI i) = (if lg_cmp (lI (fD (wA d) (wB d) (wK d) (pK d))) 0 ≤ 0 then fn11_netTiling_b62 N 0 1 (am_n M + 1) M1 else am_bd (fn4_search N M1 39 (am_n M + 1) 38 89) (fun v15 M16 => if v15 = 0 then fn11_netTiling_b62 N 0 1 (am_n M + 1) M16 else fn11_netTiling_b62 N 1 1 (am_n M + 1) M16)) := by
    unfold fn11_netTiling fn11_netTiling_b0 fn11_netTiling_b61
    rw [nk_k, sk1 s, nk_dd, sr1_0 s, nk_k, sk2 s, nk_dd, sr2_11 s, nk_k, sk7 s, nk_dd, sl7 s, nk_in hi (by decide), nk_ck, sr2_10 s, nk_k, sk6 s, nk_dd, sl6 s, nk_in hi (by decide), nk_ck, sr1_2 s, nk_k, sk25 s, nk_dd, nI_clamp (by omega), r7, c6, a1, nk_bd, nk_k, t3, nk_dd, a8, nk_k, sk1 s1, nk_dd, sr1_2 s1, nk_k, sk25 s1, nk_dd, sr1_3 s1, nk_k, sk39 s1, nk_dd, sr25_3 s1, sr1_4 s1]
  have mk : ∀ M2 fl dd q, Shp M2 → am_Fr txW M M2 → am_n M2 = am_n M + 3 → NcR M2 (am_n M + 1) (wA d) (wB d) (wK d) (pK d) → (fl = 0 ∧ dd = 0 ∨ fl = 1 ∧ dd = 89) → (∃ M3, fn10_init N (am_new M2 10 0) (am_n M2 + 1) 1 dd 0 (am_n M + 1) = some ((), M3) ∧ TiQ M2 M3 q 1 0 (am_n M + 1)) → q = qN (wA d) (wB d) (wK d) (pK d) → ∃ t q M', fn11_netTiling_b62 N fl 1 (am_n M + 1) M2 = some (t, M') ∧ am_Fr txW M M' ∧ am_n M < t ∧ LcT M' t d q := by
    intro M2 fl dd q s2 fr2 n2 nc h hT eq
    obtain ⟨M3, b1, b2, b3, b4, b5, b6, b7⟩ := hT
    rw [fin M2 fl dd s2 h, b1, nk_bd]
    have dy : Dyn M2 M3 := dyn_fr b2 (fun a ha => absurd ha List.not_mem_nil)
    refine ⟨am_n M2 + 1, q, M3, rfl, fr_trans fr2 (fr_mono b2 (fun a ha => absurd ha List.not_mem_nil)), by omega, b3, by rw [eq]; exact qn_good p0 w14, b7, Or.inr ⟨d1, b4, eq, a9, ?_⟩⟩
    rw [b6]
    exact ncr_dyn dy nc
  rw [st]
  by_cases z : fD (wA d) (wB d) (wK d) (pK d) = 0
  · have c0 : ¬ 0 < fD (wA d) (wB d) (wK d) (pK d) := by omega
    rw [if_pos (show lg_cmp (lI (fD (wA d) (wB d) (wK d) (pK d))) 0 ≤ 0 by rw [z]; decide)]
    have nc : NcR M1 (am_n M + 1) (wA d) (wB d) (wK d) (pK d) := by
      refine ⟨⟨t1, by omega, t3⟩, a8, ?_, a5, a6, by rw [t8]; exact ⟨by omega, by omega, t4, t5⟩, by rw [t9]; exact ⟨by omega, by omega, t6, t7⟩, fun y => absurd y c0⟩
      unfold cN
      rw [if_neg c0]; exact a7
    exact mk M1 0 0 (1, 0, 0, []) s1 fr1 a3 nc (Or.inl ⟨rfl, rfl⟩) (ti_none (N := N) (M0 := M1) hN n1411) (by unfold qN; rw [if_neg (fun c => c0 c.1)])
  · have dp : 0 < fD (wA d) (wB d) (wK d) (pK d) := by omega
    have ng : ¬ lg_cmp (lI (fD (wA d) (wB d) (wK d) (pK d))) 0 ≤ 0 := by
      rw [lg_cmp_le]
      intro h
      rw [Int64.le_iff_toInt_le, li_toInt (by unfold fD; omega)] at h
      have : (0 : Int64).toInt = 0 := rfl
      omega
    obtain ⟨fl, h38⟩ := a10 dp
    rw [if_neg ng]
    obtain ⟨v, M2, b1, b2, b3, b4, b5, b6⟩ := sc_c (N := N) (u := am_n M + 1) hN t1 p0 w14 dp s1 a4 a6 a7 fl h38
    have s2 := fs_shp b2 s1
    have nu : am_n M2 = am_n M + 3 := by rw [b2.1, a3]
    have fr2 : am_Fr txW M M2 := fr_fs fr1 b2 (fun y hy => by
      rcases List.mem_cons.mp hy with e | hy
      · rw [e]; exact Or.inl (by decide)
      · rcases List.mem_cons.mp hy with e | hy
        · rw [e]; exact Or.inl (by decide)
        · rcases List.mem_cons.mp hy with e | hy
          · rw [e]; exact Or.inr (by omega)
          · have : ∀ z ∈ scW 42, z ∈ txW := by decide
            exact Or.inl (this y (List.mem_cons_of_mem _ hy)))
    have nc : NcR M2 (am_n M + 1) (wA d) (wB d) (wK d) (pK d) := by
      have out : ∀ y, am_n M + 1 < y → y ∉ 39 :: 41 :: scW (am_n M + 1) := by
        intro y hy hm
        rcases List.mem_cons.mp hm with e | hm
        · omega
        · rcases List.mem_cons.mp hm with e | hm
          · omega
          · exact scW_out (u := am_n M + 1) (by omega) (by omega) hm
      have t' := ntt_fs b2 a4
      obtain ⟨u1, u2, u3, u4, u5, u6, u7, u8, u9⟩ := t'
      refine ⟨⟨u1, by omega, u3⟩, by rw [b4]; exact a8, ?_, by rw [b3 0 (by decide)]; exact a5, by rw [b3 1 (by decide)]; exact a6, by rw [u8]; exact ⟨by omega, by omega, u4, u5⟩, by rw [u9]; exact ⟨by omega, by omega, u6, u7⟩, fun _ => ?_⟩
      · unfold cN
        rw [if_pos dp]; exact b5
      · rw [u8, u9, fs_I b2 (out _ (by omega)), fs_I b2 (out _ (by omega))]
        exact ⟨fun k hk => fl.1 k (by omega), fl.2.1⟩
    rw [b1, nk_bd]
    rcases b6 with ⟨z1, z2, z3⟩ | ⟨z1, z2⟩
    · have cl := cn_m (nSz (wA d) (wB d) (wK d) (pK d)) (wK d)
      rw [z2, if_neg z_1]
      exact mk M2 1 89 _ s2 fr2 nu nc (Or.inr ⟨rfl, rfl⟩) (ti_new (N := N) (M0 := M2) (d := 89) hN (by decide) (by decide) s2.1 (drt_89 s2) z3 (by omega)) (by unfold qN; rw [if_pos ⟨dp, z1⟩])
    · rw [z2, if_pos rfl]
      exact mk M2 0 0 (1, 0, 0, []) s2 fr2 nu nc (Or.inl ⟨rfl, rfl⟩) (ti_none (N := N) (M0 := M2) hN s2.1) (by unfold qN; rw [if_neg (fun c => z1 c.2)])
end
