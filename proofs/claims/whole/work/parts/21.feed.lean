def fdB (v s : Int32) : Int32 := ((v >>> (s &&& 31)).toInt8.toInt32).toInt8.toInt32
def fdX (g : Nat → Int32) (f : Nat) (v : Int32) (i : Nat) : Int32 := if i < f then g i else fdB v (if i = f then 24 else if i = f + 1 then 16 else if i = f + 2 then 8 else 0)
def isB (x : Int32) : Prop := x = x.toInt8.toInt32
theorem fdB_b (v s : Int32) : isB (fdB v s) := by
  unfold isB fdB
  rw [Int8.toInt8_toInt32, Int8.toInt8_toInt32]
theorem fdX_b {g : Nat → Int32} {f : Nat} (v : Int32) (h : ∀ i, i < f → isB (g i)) : ∀ i, isB (fdX g f v i) := by
  intro i
  unfold fdX
  split
  · exact h i (by assumption)
  · exact fdB_b _ _
/-- what four bytes more do -/
def FdR (t l a f : Nat) (g : Nat → Int32) (v : Int32) (M M' : am_Mem) : Prop := am_Fr [t, a] M M' ∧ am_I M' t l = nI (f + 4) ∧ (∀ j, ¬ j = l → am_I M' t j = am_I M t j) ∧ ∀ i, i < f + 4 → am_I M' a i = fdX g f v i
def fdM (M : am_Mem) (t l a f : Nat) (b : Int32) : am_Mem := am_wI (am_wI M a f b) t l (nI (f + 1))
theorem fdR_of {t l a f : Nat} {g : Nat → Int32} (v : Int32) {M : am_Mem} (hta : ¬ t = a) (hg : ∀ i, i < f → am_I M a i = g i) : FdR t l a f g v M (fdM (fdM (fdM (fdM M t l a f (fdB v 24)) t l a (f + 1) (fdB v 16)) t l a (f + 2) (fdB v 8)) t l a (f + 3) (fdB v 0)) := by
  unfold fdM
  refine ⟨?_, rI_eq _ _ _ _, fun j hj => ?_, fun i hi => ?_⟩
  · have m1 : t ∈ [t, a] := List.mem_cons_self
    have m2 : a ∈ [t, a] := List.mem_cons_of_mem _ List.mem_cons_self
    exact fr_trans (fr_trans (fr_trans (fr_trans (fr_trans (fr_trans (fr_trans (fr_wI _ _ _ m2) (fr_wI _ _ _ m1)) (fr_wI _ _ _ m2)) (fr_wI _ _ _ m1)) (fr_wI _ _ _ m2)) (fr_wI _ _ _ m1)) (fr_wI _ _ _ m2)) (fr_wI _ _ _ m1)
  · rw [rI_ix _ _ _ hj, rI_ne _ _ _ hta, rI_ix _ _ _ hj, rI_ne _ _ _ hta, rI_ix _ _ _ hj, rI_ne _ _ _ hta, rI_ix _ _ _ hj, rI_ne _ _ _ hta]
  · have hat : ¬ a = t := fun e => hta e.symm
    rw [rI_ne _ _ _ hat, rI_if, rI_ne _ _ _ hat, rI_if, rI_ne _ _ _ hat, rI_if, rI_ne _ _ _ hat, rI_if]
    unfold fdX
    by_cases h0 : i < f
    · rw [if_neg (by omega), if_neg (by omega), if_neg (by omega), if_neg (by omega), if_pos h0, hg i h0]
    · rw [if_neg h0]
      by_cases h1 : i = f
      · rw [if_neg (by omega), if_neg (by omega), if_neg (by omega), if_pos h1, if_pos h1]
      · by_cases h2 : i = f + 1
        · rw [if_neg (by omega), if_neg (by omega), if_pos h2, if_neg h1, if_pos h2]
        · by_cases h3 : i = f + 2
          · rw [if_neg (by omega), if_pos h3, if_neg h1, if_neg h2, if_pos h3]
          · rw [if_pos (by omega), if_neg h1, if_neg h2, if_neg h3]
theorem fd_c1 {M : am_Mem} (hs : Shp M) {f : Nat} (hf : am_I M 2 7 = nI f) (hl : f < 600) (N i : Nat) (v s : Int32) (h0 : ¬ s < 0) : fn8_takeFourBytes_b3 N (i + 1) 2 v s M = fn8_takeFourBytes_b3 N i 2 v (s + -8) (fdM M 2 7 3 f (fdB v s)) := by
  show fn8_takeFourBytes_b3B N (fn8_takeFourBytes_b3 N i) 2 v s M = _
  unfold fn8_takeFourBytes_b3B fdM fdB
  rw [if_neg h0, nk_k, sk2 hs, hf, if_neg (show ¬ (600 : Int32) ≤ nI f from nI_ge (b := 600) hl (by omega)), sr2_0 hs, nk_k, sk3 hs, sl3 hs, nk_in hl (by omega), nI_clamp (by omega), rI_ne _ _ _ (by decide), hf, nI_1]
  rfl
theorem fd_m1 {M : am_Mem} (hs : Shp M) {f : Nat} (hf : am_I M 110 2 = nI f) (hl : f < 600) (N i : Nat) (v s : Int32) (h0 : ¬ s < 0) : fn12_puts_b3 N (i + 1) 110 v s M = fn12_puts_b3 N i 110 v (s + -8) (fdM M 110 2 111 f (fdB v s)) := by
  show fn12_puts_b3B N (fn12_puts_b3 N i) 110 v s M = _
  unfold fn12_puts_b3B fdM fdB
  rw [if_neg h0, nk_k, sk110 hs, hf, sr110_1 hs, nk_k, sk111 hs, sl111 hs, nk_in hl (by omega), nI_clamp (by omega), rI_ne _ _ _ (by decide), hf, nI_1]
  rfl
theorem fd_c {M : am_Mem} (hs : Shp M) {f : Nat} {g : Nat → Int32} (hf : am_I M 2 7 = nI f) (hl : f + 4 ≤ 600) (hg : ∀ i, i < f → am_I M 3 i = g i) {N : Nat} (hN : 100000 ≤ N) (v : Int32) : ∃ M', fn8_takeFourBytes N M 2 v = some ((), M') ∧ FdR 2 7 3 f g v M M' := by
  refine ⟨_, ?_, fdR_of v (by decide) hg⟩
  obtain ⟨n, rfl⟩ : ∃ n, N = n + 5 := ⟨N - 5, by omega⟩
  unfold fn8_takeFourBytes fn8_takeFourBytes_b0
  rw [fd_c1 hs hf (by omega) (n + 5) (n + 4) v 24 (by decide), fd_c1 (M := fdM M 2 7 3 f (fdB v 24)) hs (rI_eq _ _ _ _) (by omega) (n + 5) (n + 3) v (24 + -8) (by decide), fd_c1 (M := fdM (fdM M 2 7 3 f (fdB v 24)) 2 7 3 (f + 1) (fdB v (24 + -8))) hs (rI_eq _ _ _ _) (by omega) (n + 5) (n + 2) v (24 + -8 + -8) (by decide), fd_c1 (M := fdM (fdM (fdM M 2 7 3 f (fdB v 24)) 2 7 3 (f + 1) (fdB v (24 + -8))) 2 7 3 (f + 2) (fdB v (24 + -8 + -8))) hs (rI_eq _ _ _ _) (by omega) (n + 5) (n + 1) v (24 + -8 + -8 + -8) (by decide)]
  rfl
theorem fd_m {M : am_Mem} (hs : Shp M) {f : Nat} {g : Nat → Int32} (hf : am_I M 110 2 = nI f) (hl : f + 4 ≤ 600) (hg : ∀ i, i < f → am_I M 111 i = g i) {N : Nat} (hN : 100000 ≤ N) (v : Int32) : ∃ M', fn12_puts N M 110 v = some ((), M') ∧ FdR 110 2 111 f g v M M' := by
  refine ⟨_, ?_, fdR_of v (by decide) hg⟩
  obtain ⟨n, rfl⟩ : ∃ n, N = n + 5 := ⟨N - 5, by omega⟩
  unfold fn12_puts fn12_puts_b0
  rw [fd_m1 hs hf (by omega) (n + 5) (n + 4) v 24 (by decide), fd_m1 (M := fdM M 110 2 111 f (fdB v 24)) hs (rI_eq _ _ _ _) (by omega) (n + 5) (n + 3) v (24 + -8) (by decide), fd_m1 (M := fdM (fdM M 110 2 111 f (fdB v 24)) 110 2 111 (f + 1) (fdB v (24 + -8))) hs (rI_eq _ _ _ _) (by omega) (n + 5) (n + 2) v (24 + -8 + -8) (by decide), fd_m1 (M := fdM (fdM (fdM M 110 2 111 f (fdB v 24)) 110 2 111 (f + 1) (fdB v (24 + -8))) 110 2 111 (f + 2) (fdB v (24 + -8 + -8))) hs (rI_eq _ _ _ _) (by omega) (n + 5) (n + 1) v (24 + -8 + -8 + -8) (by decide)]
  rfl
theorem fdr_I {t l a f : Nat} {g : Nat → Int32} {v : Int32} {M M' : am_Mem} (h : FdR t l a f g v M M') : ∀ i, i < f + 4 → am_I M' a i = fdX g f v i := h.2.2.2
theorem ok_feed {N : Nat} (hN : 100000 ≤ N) : OK_feed N Inv := by
  intro M x1 x2 x3 x4 x5 ⟨told, m, D, h⟩
  have h' := inv_thr h 0
  obtain ⟨f, f1, f2, f3, f4⟩ := h.2.1
  have s := i_shp h
  have e20 : nI f + 20 = nI (f + 20) := nI_add f 20
  by_cases hf : f + 20 ≤ 600
  · have c600 : nI (f + 20) ≤ 600 := nI_le (b := 600) hf (by omega)
    obtain ⟨A1, a1, b1⟩ := fd_c s f2 (by omega) (g := am_I M 3) (fun _ _ => rfl) hN x1
    have s1 := shp_fr s b1.1
    obtain ⟨A2, a2, b2⟩ := fd_c s1 b1.2.1 (by omega) b1.2.2.2 hN x2
    have s2 := shp_fr s1 b2.1
    obtain ⟨A3, a3, b3⟩ := fd_c s2 b2.2.1 (by omega) b2.2.2.2 hN x3
    have s3 := shp_fr s2 b3.1
    obtain ⟨A4, a4, b4⟩ := fd_c s3 b3.2.1 (by omega) b3.2.2.2 hN x4
    have s4 := shp_fr s3 b4.1
    obtain ⟨A5, a5, b5⟩ := fd_c s4 b4.2.1 (by omega) b4.2.2.2 hN x5
    have s5 := shp_fr s4 b5.1
    have fa : am_Fr [2, 3] M A5 := fr_trans (fr_trans (fr_trans (fr_trans b1.1 b2.1) b3.1) b4.1) b5.1
    have n141 := s.1
    have r110 : am_I A5 110 = am_I M 110 := fr_I fa (by omega) (by decide)
    have r111 : am_I A5 111 = am_I M 111 := fr_I fa (by omega) (by decide)
    have s0 : Shp (am_wI A5 110 0 0) := s5
    have g0 : am_I (am_wI A5 110 0 0) 110 2 = nI f := by rw [rI_ix _ _ _ (by decide), r110]; exact f3
    have g1 : ∀ i, i < f → am_I (am_wI A5 110 0 0) 111 i = am_I M 3 i := fun i hi => by rw [rI_ne _ _ _ (by decide), r111]; exact (f4 i hi).1.symm
    obtain ⟨B1, p1, q1⟩ := fd_m s0 g0 (by omega) g1 hN x1
    have w1 := shp_fr s0 q1.1
    obtain ⟨B2, p2, q2⟩ := fd_m w1 q1.2.1 (by omega) q1.2.2.2 hN x2
    have w2 := shp_fr w1 q2.1
    obtain ⟨B3, p3, q3⟩ := fd_m w2 q2.2.1 (by omega) q2.2.2.2 hN x3
    have w3 := shp_fr w2 q3.1
    obtain ⟨B4, p4, q4⟩ := fd_m w3 q3.2.1 (by omega) q3.2.2.2 hN x4
    have w4 := shp_fr w3 q4.1
    obtain ⟨B5, p5, q5⟩ := fd_m w4 q4.2.1 (by omega) q4.2.2.2 hN x5
    have w5 := shp_fr w4 q5.1
    have fb : am_Fr [110, 111] (am_wI A5 110 0 0) B5 := fr_trans (fr_trans (fr_trans (fr_trans q1.1 q2.1) q3.1) q4.1) q5.1
    have fm : am_Fr [2, 3, 110, 111] M B5 := fr_trans (fr_trans (fr_mono fa (by decide)) (fr_wI A5 (W := [2, 3, 110, 111]) 0 0 (by decide))) (fr_mono fb (by decide))
    refine ⟨nI (f + 20), A5, B5, ?_, sk110 s5, ?_, told, m, D, ?_⟩
    · unfold fn11_feed fn11_feed_b0
      rw [nk_k, sk1 s, sr1_0 s, nk_k, sk2 s, f2, e20, if_pos c600, a1, nk_bd, nk_k, sk1 s1, sr1_0 s1, nk_k, sk2 s1, a2, nk_bd, nk_k, sk1 s2, sr1_0 s2, nk_k, sk2 s2, a3, nk_bd, nk_k, sk1 s3, sr1_0 s3, nk_k, sk2 s3, a4, nk_bd, nk_k, sk1 s4, sr1_0 s4, nk_k, sk2 s4, a5, nk_bd, nk_k, sk1 s5, sr1_0 s5, nk_k, sk2 s5, b5.2.1]
      rfl
    · unfold fn12_feed fn12_feed_b0
      rw [nk_k, sk110 s5, g0, e20, if_pos c600, p1, nk_bd, nk_k, sk110 w1, p2, nk_bd, nk_k, sk110 w2, p3, nk_bd, nk_k, sk110 w3, p4, nk_bd, nk_k, sk110 w4, p5, nk_bd, nk_k, sk110 w5, q5.2.1]
      rfl
    · have d : Dyn M B5 := dyn_fr fm (by decide)
      have fi : ∀ a, a ≤ 141 → a ∉ [2, 3, 110, 111] → am_I B5 a = am_I M a := fun a h1 h2 => fr_I fm (by omega) h2
      have fj : ∀ a, a ≤ 141 → a ∉ [2, 3, 110, 111] → am_J B5 a = am_J M a := fun a h1 h2 => fr_J fm (by omega) h2
      have fr : ∀ a, a ≤ 141 → am_R B5 a = am_R M a := fun a h1 => fr_R fm (by omega)
      have f110 : ∀ j, ¬ j = 0 → ¬ j = 2 → am_I B5 110 j = am_I M 110 j := by
        intro j j0 j2
        rw [q5.2.2.1 j j2, q4.2.2.1 j j2, q3.2.2.1 j j2, q2.2.2.1 j j2, q1.2.2.1 j j2, rI_ix _ _ _ j0, r110]
      have f3' : am_I B5 3 = am_I A5 3 := by
        rw [fr_I fb (a := 3) (by have := s5.1; rw [rn_wI]; omega) (by decide), rI_ne _ _ _ (by decide)]
      have f2' : am_I B5 2 = am_I A5 2 := by
        rw [fr_I fb (a := 2) (by have := s5.1; rw [rn_wI]; omega) (by decide), rI_ne _ _ _ (by decide)]
      have tol : TolF M B5 := ⟨fi _ (by decide) (by decide), fi _ (by decide) (by decide), fi _ (by decide) (by decide), fi _ (by decide) (by decide), fi _ (by decide) (by decide), fj _ (by decide) (by decide), fj _ (by decide) (by decide), fj _ (by decide) (by decide)⟩
      obtain ⟨_, _, p, l, ⟨u, u1, u2, u3⟩, k1, k2, k3, k4, k5, k6⟩ := h
      refine ⟨shp_fr s fm, ⟨f + 20, hf, ?_, q5.2.1, fun i hi => ?_⟩, pagr_fr (by rw [fi 102 (by decide) (by decide)]) (f110 42 (by decide) (by decide)) (fi _ (by decide) (by decide)) (fi _ (by decide) (by decide)) p, linr_fr d (by rw [fr 97 (by decide)]) (by rw [fi 97 (by decide) (by decide)]) (fi _ (by decide) (by decide)) (fi _ (by decide) (by decide)) (fi _ (by decide) (by decide)) (fi _ (by decide) (by decide)) l, ⟨u, u1, ?_, ?_⟩, k1, ?_, ?_, shr_fr d tol (fr _ (by decide)) (by rw [fi _ (by decide) (by decide)]) (fi _ (by decide) (by decide)) k4, kepr_fr d tol (fr _ (by decide)) (fi _ (by decide) (by decide)) (fi _ (by decide) (by decide)) (fi _ (by decide) (by decide)) (fi _ (by decide) (by decide)) k5, kepr_fr d tol (fr _ (by decide)) (fi _ (by decide) (by decide)) (fi _ (by decide) (by decide)) (fi _ (by decide) (by decide)) (fi _ (by decide) (by decide)) k6⟩
      · rw [f2']; exact b5.2.1
      · rw [f3', b5.2.2.2 i (by omega), q5.2.2.2 i (by omega)]
        refine ⟨rfl, ?_⟩
        exact fdX_b x5 (fun i _ => fdX_b x4 (fun i _ => fdX_b x3 (fun i _ => fdX_b x2 (fun i _ => fdX_b x1 (fun i hi => (f4 i hi).2) i) i) i) i) i
      · rw [fi 1 (by decide) (by decide)]; exact u2
      · rw [f110 19 (by decide) (by decide)]; exact u3
      · rw [f110 40 (by decide) (by decide)]; exact k2
      · rw [f110 18 (by decide) (by decide)]; exact k3
  · have c600 : ¬ nI (f + 20) ≤ 600 := nI_ge (a := 600) (by omega) (by omega)
    refine ⟨-1, M, am_wI M 110 0 0, ?_, sk110 (i_shp h), ?_, told, m, D, h'⟩
    · unfold fn11_feed fn11_feed_b0
      rw [nk_k, sk1 s, sr1_0 s, nk_k, sk2 s, f2, e20, if_neg c600]
      rfl
    · unfold fn12_feed fn12_feed_b0
      rw [k_110 h, rI_ix _ _ _ (by decide), f3, e20, if_neg c600]
      rfl
