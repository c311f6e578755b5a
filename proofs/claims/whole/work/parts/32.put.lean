/-- what the class does when it puts a made one -/
def PutQ (M M' : am_Mem) (m u : Nat) (q : Rc) : Prop :=
  (am_n M ≤ am_n M' ∧ ∀ a, a ≤ am_n M → am_K M' a = am_K M a ∧ am_L M' a = am_L M a ∧ (¬ a = 105 → am_R M' a = am_R M a) ∧ (a ∉ [1, 89, 90, 91, 92, 104] → am_I M' a = am_I M a ∧ am_J M' a = am_J M a)) ∧
  (∀ i, ¬ i = m → am_R M' 105 i = am_R M 105 i) ∧ am_I M' 104 1 = nI (m + 1) ∧ am_I M' 1 11 = nI (u + 1) ∧
  TilR M' (am_R M' 105 m) q ∧ am_I M' (am_R M' 105 m) 0 = 2 ∧ am_R M' (am_R M' 105 m) 3 = 0 ∧ am_I M' (am_R M' 105 m) 10 = -1
theorem putq_fs {M Ma M' : am_Mem} {m u : Nat} {q : Rc} (f : Fs (dW 89) M Ma) (p : PutQ Ma M' m u q) : PutQ M M' m u q := by
  obtain ⟨⟨p0, p1⟩, p2, p3, p5⟩ := p
  refine ⟨⟨by rw [← f.1]; exact p0, fun a ha => ?_⟩, fun i hi => by rw [p2 i hi, f.2.2.2.1], p3, p5⟩
  obtain ⟨a1, a2, a4, a5⟩ := p1 a (by rw [f.1]; exact ha)
  have hd : a ∉ [1, 89, 90, 91, 92, 104] → a ∉ dW 89 := fun h h' => h (by
    simp only [dW, List.mem_cons, List.not_mem_nil, or_false] at h' ⊢
    omega)
  exact ⟨by rw [a1, f.2.1], by rw [a2, f.2.2.1], fun h => by rw [a4 h, f.2.2.2.1], fun h => ⟨by rw [(a5 h).1, fs_I f (hd h)], by rw [(a5 h).2, fs_J f (hd h)]⟩⟩
theorem put_ok {N : Nat} (hN : 100000 ≤ N) {M : am_Mem} {m u n : Nat} {w h : Int32} {f : Nat → Sq} (s : Shp M) (c : DrC M 89 n w h f) (hn : n ≤ 40) (hm : m < 12) (h104 : am_I M 104 1 = nI m) (h11 : am_I M 1 11 = nI u) :
    ∃ M', fn11_putMade N M 1 = some (nI m, M') ∧ PutQ M M' m u (0, w, h, ofF (sor n f) n) := by
  obtain ⟨M4, e4, f4, c4⟩ := dr_sort hN hn (drt_89 s) c
  have s4 := fs_shp f4 s
  obtain ⟨M10, e10, q10⟩ := ti_new (N := N) (x1 := 2) (x3 := 0) (r4 := 0) hN (by decide) (by decide) s4.1 (drt_89 s4) c4 hn
  obtain ⟨fr, tl, i0, i2, r3, i10⟩ := q10
  have hn4 := s4.1
  have nn : am_n M4 + 1 ≤ am_n M10 := tl.1.2.1
  refine ⟨am_wI (am_wI (am_wR M10 105 m (am_n M4 + 1)) 104 1 (nI (m + 1))) 1 11 (nI (u + 1)), ?_, ?_⟩
  · have x104 : am_I M10 104 1 = nI m := by rw [fr_I fr (by omega) (by simp), fs_I f4 (by decide)]; exact h104
    have x11 : am_I M10 1 11 = nI u := by rw [fr_I fr (by omega) (by simp), fs_I f4 (by decide)]; exact h11
    have y1 : am_K (am_new M4 10 0) 1 = 11 := by rw [rK_new _ _ _ (by omega)]; exact sk1 s4
    have y2 : am_R (am_new M4 10 0) 1 4 = 89 := by rw [rR_new _ _ _ (by omega)]; exact sr1_4 s4
    have y3 : am_K M10 104 = 9 := (fr_K fr (by omega)).trans (sk104 s4)
    have y4 : am_R M10 104 0 = 105 := by rw [fr_R fr (by omega)]; exact sr104_0 s4
    have y5 : am_K M10 105 = 18 := (fr_K fr (by omega)).trans (sk105 s4)
    have y6 : am_L M10 105 = 12 := (fr_L fr (by omega)).trans (sl105 s4)
    have y7 : am_K M10 1 = 11 := (fr_K fr (by omega)).trans (sk1 s4)
    have y8 : am_R M10 1 8 = 104 := by rw [fr_R fr (by omega)]; exact sr1_8 s4
    have hle : ¬ (12 : Int32) ≤ nI m := nI_ge (b := 12) hm (by decide)
    have hin : am_in (nI m) 12 = true := nk_in hm (by decide)
    have hcl : (nI m).toNatClampNeg = m := nI_clamp (by omega)
    unfold fn11_putMade fn11_putMade_b0 fn11_putMade_b38 fn9_put fn9_put_b0 fn9_put_b29
    rw [sr1_4 s, e4, nk_bd, y2, e10]
    simp (disch := omega) only [nk_k, sk1 s, sk89 s, sk1 s4, y1, rK_newE, eq_self, decide_true, nk_ck, nk_bd, sr1_8 s4, y3, y4, y5, y6, y7, x104, hle, if_false, hin, hcl, nk_ck, tl.1.2.2, qK_wI, qK_wR, rI_ne, qI_wR, x11, qR_wI, rR_ne, y8, rI_eq, nI_1, nI_pred]
  · refine putq_fs f4 ⟨⟨by show am_n M4 ≤ am_n M10; omega, fun a ha => ⟨?_, ?_, fun hb => ?_, fun hb => ⟨?_, ?_⟩⟩⟩, fun i hi => ?_, ?_, ?_, ?_⟩
    · exact fr_K fr ha
    · exact fr_L fr ha
    · simp (disch := omega) only [qR_wI, rR_ne]; exact fr_R fr ha
    · have h1 : ¬ a = 1 := fun e => hb (by simp [e])
      have h2 : ¬ a = 104 := fun e => hb (by simp [e])
      rw [rI_ne _ _ _ h1, rI_ne _ _ _ h2]; exact fr_I fr ha (by simp)
    · exact fr_J fr ha (by simp)
    · simp (disch := omega) only [qR_wI, rR_ix]; rw [fr_R fr (by omega)]
    · simp (disch := omega) only [rI_ne, rI_eq]
    · exact rI_eq _ _ _ _
    · have hR : am_R (am_wI (am_wI (am_wR M10 105 m (am_n M4 + 1)) 104 1 (nI (m + 1))) 1 11 (nI (u + 1))) 105 m = am_n M4 + 1 := by
        rw [rR_wI, rR_wI, rR_eq]
      have dd : Dyn M10 (am_wI (am_wI (am_wR M10 105 m (am_n M4 + 1)) 104 1 (nI (m + 1))) 1 11 (nI (u + 1))) := dyn_trans (dyn_trans (dyn_wR _ _ (by decide)) (dyn_wI _ _ (by decide))) (dyn_wI _ _ (by decide))
      rw [hR]
      refine ⟨tilr_dyn dd tl, ?_, ?_, ?_⟩
      · simp (disch := omega) only [rI_ne, qI_wR]; exact i0
      · simp (disch := omega) only [qR_wI, rR_ne]; exact r3
      · simp (disch := omega) only [rI_ne, qI_wR]; exact i10
/-- what the reference does when it makes one -/
def ModQ (M M' : am_Mem) (m u : Nat) (q : Rc) : Prop :=
  Fs [110, 117, 140] M M' ∧ (∀ i, ¬ i = 0 → ¬ i = 18 → ¬ i = 19 → am_I M' 110 i = am_I M 110 i) ∧ am_I M' 110 18 = nI (m + 1) ∧ am_I M' 110 19 = nI (u + 1) ∧ (∀ i, i < 124 * m → am_I M' 117 i = am_I M 117 i) ∧ RowR M' 117 (124 * m) q
theorem mk_loop {N : Nat} {m : Nat} (hm : m < 12) : ∀ k j fuel M, j + k = 124 → k < fuel → Shp M → am_I M 110 18 = nI m → ∃ M' f', fn12_makes_b51 N fuel 110 (nI j) M = fn12_makes_b51 N (f' + 1) 110 (nI 124) M' ∧ Fs [117] M M' ∧ (∀ i, j ≤ i → i < 124 → am_I M' 117 (124 * m + i) = am_I M 140 i) ∧ ∀ i, i < 124 * m + j → am_I M' 117 i = am_I M 117 i := by
  intro k
  induction k with
  | zero =>
    intro j fuel M hj hf s h18
    obtain ⟨g, rfl⟩ : ∃ g, fuel = g + 1 := ⟨fuel - 1, by omega⟩
    have : j = 124 := by omega
    subst this
    exact ⟨M, g, rfl, fs_refl _ _, fun i a b => by omega, fun i _ => rfl⟩
  | succ k ih =>
    intro j fuel M hj hf s h18
    obtain ⟨g, rfl⟩ : ∃ g, fuel = g + 1 := ⟨fuel - 1, by omega⟩
    have f0 : Fs [117] M (am_wI M 117 (124 * m + j) (am_I M 140 j)) := fs_wI _ _ _ List.mem_cons_self
    obtain ⟨M', f', e, f1, c1, c2⟩ := ih (j + 1) g (am_wI M 117 (124 * m + j) (am_I M 140 j)) (by omega) (by omega) (fs_shp f0 s) (by rw [rI_ne _ _ _ (by decide)]; exact h18)
    refine ⟨M', f', ?_, fs_trans f0 f1, fun i a b => ?_, fun i hi => ?_⟩
    · rw [← e]
      have e1 : (124 : Int32) * nI m + nI j = nI (124 * m + j) := by rw [show (124 : Int32) = nI 124 from rfl, pk_mul, nI_add]
      have i1 : am_in (nI j) 124 = true := nk_in (by omega) (by decide)
      have i2 : am_in (nI (124 * m + j)) 1488 = true := nk_in (by omega) (by decide)
      have l1 : (nI j).toNatClampNeg = j := nI_clamp (by omega)
      have l2 : (nI (124 * m + j)).toNatClampNeg = 124 * m + j := nI_clamp (by omega)
      have hle : ¬ (124 : Int32) ≤ nI j := nI_ge (b := 124) (by omega) (by decide)
      show fn12_makes_b51B N (fn12_makes_b51 N g) 110 (nI j) M = _
      unfold fn12_makes_b51B
      simp only [hle, if_false, nk_k, sk110 s, sr110_48 s, sr110_17 s, sk140 s, sl140 s, sk117 s, sl117 s, eq_self, decide_true, nk_ck, nk_ck, h18, e1, i1, i2, l1, l2, nI_1]
    · by_cases e2 : i = j
      · subst e2
        rw [c2 _ (by omega), rI_eq]
      · rw [c1 i (by omega) b, rI_ne _ _ _ (by decide)]
    · rw [c2 i (by omega), rI_ix _ _ _ (by omega)]
theorem mk_ok {N : Nat} (hN : 100000 ≤ N) {M : am_Mem} {m u n : Nat} {w h : Int32} {f : Nat → Sq} (s : Shp M) (c : RoC M n w h f) (hn : n ≤ 40) (hm : m < 12) (hu : u < 12) (h18 : am_I M 110 18 = nI m) (h19 : am_I M 110 19 = nI u) :
    ∃ M', fn12_makes N M 110 = some (nI m, M') ∧ ModQ M M' m u (0, w, h, ofF (sor n f) n) := by
  obtain ⟨M1, e1, f1, c1⟩ := ro_srt hN hn (n - 1) 1 f M N (by omega) (by omega) (by omega) s c (by omega)
  have s1 := fs_shp f1 s
  obtain ⟨M2, f', e2, f2, a2, b2⟩ := mk_loop (N := N) hm 124 0 N M1 (by omega) (by omega) s1 (by rw [fs_I f1 (by decide)]; exact h18)
  have s2 := fs_shp f2 s1
  have x18 : am_I M2 110 18 = nI m := by rw [fs_I f2 (by decide), fs_I f1 (by decide)]; exact h18
  have x19 : am_I M2 110 19 = nI u := by rw [fs_I f2 (by decide), fs_I f1 (by decide)]; exact h19
  refine ⟨am_wI (am_wI M2 110 18 (nI (m + 1))) 110 19 (nI (u + 1)), ?_, ?_, fun i h0 h1 h2 => ?_, ?_, ?_, fun i hi => ?_, ?_⟩
  · show fn12_makes_b2 N N 110 (nI 1) M = _
    rw [e1, show (0 : Int32) = nI 0 from rfl, e2]
    show fn12_makes_b51B N (fn12_makes_b51 N f') 110 (nI 124) M2 = _
    have hle : ¬ (12 : Int32) ≤ nI u := nI_ge (b := 12) hu (by decide)
    have h124 : (124 : Int32) ≤ nI 124 := by decide
    unfold fn12_makes_b51B fn12_makes_b116
    simp (disch := omega) only [h124, if_true, nk_k, sk110 s2, eq_self, decide_true, nk_ck, rI_ix, x19, hle, if_false, qK_wI, x18, rI_eq, nI_1, nI_pred]
  · exact fs_trans (fs_trans (fs_trans (fs_mono f1 (by decide)) (fs_mono f2 (by decide))) (fs_wI _ _ _ (by decide))) (fs_wI _ _ _ (by decide))
  · rw [rI_ix _ _ _ h2, rI_ix _ _ _ h1, fs_I f2 (by decide), fs_I f1 (by decide)]
  · rw [rI_ix _ _ _ (by decide), rI_eq]
  · exact rI_eq _ _ _ _
  · rw [rI_ne _ _ _ (by decide), rI_ne _ _ _ (by decide), b2 i (by omega), fs_I f1 (by decide)]
  · have g : ∀ i, i < 124 → am_I (am_wI (am_wI M2 110 18 (nI (m + 1))) 110 19 (nI (u + 1))) 117 (124 * m + i) = am_I M1 140 i := fun i hi => by
      rw [rI_ne _ _ _ (by decide), rI_ne _ _ _ (by decide)]
      exact a2 i (by omega) hi
    obtain ⟨c1a, c1b, c1c, c1d, c1e⟩ := c1
    refine ⟨?_, (g 1 (by omega)).trans c1b, (g 2 (by omega)).trans c1c, (g 3 (by omega)).trans c1d, fun k hk => ?_, fun k hk => ?_, fun k hk => ?_⟩
    · show am_I _ 117 (124 * m) = nI (ofF (sor n f) n).length
      rw [ofF_len]
      exact (g 0 (by omega)).trans c1a
    · have hk' : k < n := by
        have e : (ofF (sor n f) n).length = n := ofF_len _ _
        have : k < (ofF (sor n f) n).length := hk
        omega
      show am_I _ 117 (124 * m + (4 + k)) = qX (ofF (sor n f) n) k
      rw [g _ (by omega), ofF_X _ hk']
      exact (c1e k hk').1
    · have hk' : k < n := by
        have e : (ofF (sor n f) n).length = n := ofF_len _ _
        have : k < (ofF (sor n f) n).length := hk
        omega
      show am_I _ 117 (124 * m + (44 + k)) = qY (ofF (sor n f) n) k
      rw [g _ (by omega), ofF_Y _ hk']
      exact (c1e k hk').2.1
    · have hk' : k < n := by
        have e : (ofF (sor n f) n).length = n := ofF_len _ _
        have : k < (ofF (sor n f) n).length := hk
        omega
      show am_I _ 117 (124 * m + (84 + k)) = qS (ofF (sor n f) n) k
      rw [g _ (by omega), ofF_S _ hk']
      exact (c1e k hk').2.2
/-- one more, in class and reference -/
theorem act_inv {M Mb Mc : am_Mem} {told m u : Nat} {D : Nat → Rc} {q : Rc} (h : InvAt M told m D) (hm : m < 12) (hu : told + u ≤ m) (p : PutQ M Mb m u q) (k : ModQ Mb Mc m u q) (g : Good q) : InvAt Mc told (m + 1) (fun i => if i = m then q else D i) := by
  obtain ⟨s, tap, pag, lin, und, t6, g40, g18, sh, k1, k2⟩ := h
  obtain ⟨⟨p0, p1⟩, p2, p3, p4, p5, p6, p7, p8⟩ := p
  obtain ⟨kf, k3, k4, k5, k6, k7⟩ := k
  have hn := s.1
  have fI : ∀ a, a ≤ 141 → a ∉ [1, 89, 90, 91, 92, 104] → a ∉ [110, 117, 140] → am_I Mc a = am_I M a := fun a h1 h2 h3 => by
    rw [fs_I kf h3, ((p1 a (by omega)).2.2.2 h2).1]
  have fJ : ∀ a, a ≤ 141 → a ∉ [1, 89, 90, 91, 92, 104] → a ∉ [110, 117, 140] → am_J Mc a = am_J M a := fun a h1 h2 h3 => by
    rw [fs_J kf h3, ((p1 a (by omega)).2.2.2 h2).2]
  have fR : ∀ a, a ≤ 141 → ¬ a = 105 → am_R Mc a = am_R M a := fun a h1 h2 => by
    rw [kf.2.2.2.1, (p1 a (by omega)).2.2.1 h2]
  have f110 : ∀ i, ¬ i = 0 → ¬ i = 18 → ¬ i = 19 → am_I Mc 110 i = am_I M 110 i := fun i h1 h2 h3 => by
    rw [k3 i h1 h2 h3, ((p1 110 (by omega)).2.2.2 (by decide)).1]
  have dMb : Dyn M Mb := ⟨p0, fun a h1 h2 => by
    obtain ⟨a1, a2, a3, a4⟩ := p1 a h2
    have hb : a ∉ [1, 89, 90, 91, 92, 104] := by simp only [List.mem_cons, List.not_mem_nil, or_false]; omega
    exact ⟨a1, a2, a3 (by omega), (a4 hb).1, (a4 hb).2⟩⟩
  have dbc : Dyn Mb Mc := fs_dyn kf (by decide)
  have d := dyn_trans dMb dbc
  have tol : TolF M Mc := ⟨fI 121 (by omega) (by decide) (by decide), fI 122 (by omega) (by decide) (by decide), fI 123 (by omega) (by decide) (by decide), fI 125 (by omega) (by decide) (by decide), fI 126 (by omega) (by decide) (by decide), fJ 127 (by omega) (by decide) (by decide), fJ 128 (by omega) (by decide) (by decide), fJ 129 (by omega) (by decide) (by decide)⟩
  refine ⟨?_, ?_, ?_, ?_, ?_, t6, ?_, k4, ?_, ?_, ?_⟩
  · refine ⟨by rw [kf.1]; omega, fun a ha => ?_, fun q hq => ?_⟩
    · rw [kf.2.1, kf.2.2.1, (p1 a (by omega)).1, (p1 a (by omega)).2.1]
      exact s.2.1 a ha
    · have := sh_big q hq
      rw [fR q.1 (by omega) (by omega)]
      exact s.2.2 q hq
  · exact tapr_fr (by rw [fI 2 (by omega) (by decide) (by decide)]) (f110 2 (by decide) (by decide) (by decide)) (fI 3 (by omega) (by decide) (by decide)) (fI 111 (by omega) (by decide) (by decide)) tap
  · exact pagr_fr (by rw [fI 102 (by omega) (by decide) (by decide)]) (f110 42 (by decide) (by decide) (by decide)) (fI 103 (by omega) (by decide) (by decide)) (fI 135 (by omega) (by decide) (by decide)) pag
  · exact linr_fr d (by rw [fR 97 (by omega) (by decide)]) (by rw [fI 97 (by omega) (by decide) (by decide)]) (fI 98 (by omega) (by decide) (by decide)) (fI 99 (by omega) (by decide) (by decide)) (fI 100 (by omega) (by decide) (by decide)) (fI 101 (by omega) (by decide) (by decide)) lin
  · exact ⟨u + 1, by omega, by rw [fs_I kf (by decide)]; exact p4, k5⟩
  · rw [f110 40 (by decide) (by decide) (by decide)]; exact g40
  · refine ⟨by omega, by have := sh.2.1; omega, ?_, fun i hi => ?_⟩
    · show am_I Mc 104 1 = _
      rw [fs_I kf (by decide)]; exact p3
    · by_cases e : i = m
      · subst e
        show RecR Mc 0 told i (if i = i then q else D i)
        rw [if_pos rfl]
        have hR : am_R Mc (105 + 2 * 0) i = am_R Mb 105 i := by rw [kf.2.2.2.1]
        have hl := p5.1.1
        have hI : am_I Mc (am_R Mb 105 i) = am_I Mb (am_R Mb 105 i) := fs_I kf (by simp only [List.mem_cons, List.not_mem_nil, or_false]; omega)
        refine ⟨by rw [hR]; exact tilr_dyn dbc p5, ?_, g, Or.inl ?_, fun hc => ?_, fun _ => ⟨?_, ?_⟩⟩
        · rw [show mA 0 = 117 from rfl, show mO 0 + 124 * i = 124 * i from Nat.zero_add _]; exact k7
        · rw [hR, hI]; exact p8
        · omega
        · rw [hR, hI]; exact p6
        · rw [hR, kf.2.2.2.1]; exact p7
      · show RecR Mc 0 told i (if i = m then q else D i)
        rw [if_neg e]
        refine recr_fr d tol ?_ (fun k hk => ?_) (sh.2.2.2 i (by omega))
        · show am_R Mc 105 i = am_R M 105 i
          rw [kf.2.2.2.1, p2 i e]
        · show am_I Mc 117 (mO 0 + 124 * i + k) = am_I M 117 (mO 0 + 124 * i + k)
          have h0 : mO 0 = 0 := rfl
          rw [k6 _ (by omega), ((p1 117 (by omega)).2.2.2 (by decide)).1]
  · exact kepr_fr d tol (fR 107 (by omega) (by decide)) (fI 106 (by omega) (by decide) (by decide)) (fI 118 (by omega) (by decide) (by decide)) (fI 119 (by omega) (by decide) (by decide)) (fI 120 (by omega) (by decide) (by decide)) k1
  · exact kepr_fr d tol (fR 109 (by omega) (by decide)) (fI 108 (by omega) (by decide) (by decide)) (fI 118 (by omega) (by decide) (by decide)) (fI 119 (by omega) (by decide) (by decide)) (fI 120 (by omega) (by decide) (by decide)) k2
