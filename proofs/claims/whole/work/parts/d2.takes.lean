theorem fd_nn (a b : Nat → Nat) (W n : Nat) : 0 ≤ fD a b W n := by
  have go : ∀ k, k ≤ n → 0 < dt k (fun i => i) (Lap a b W) ∨ dt n (fun i => i) (Lap a b W) = 0 := by
    intro k
    induction k with
    | zero => exact fun _ => Or.inl (show (0 : Int) < 1 by decide)
    | succ k ih =>
      intro hk
      rcases ih (by omega) with h | h
      · obtain ⟨p1, p2⟩ := lap_pos (a := a) (b := b) (W := W) (n := n) (show k < n by omega) h
        by_cases z : dt (k + 1) (fun i => i) (Lap a b W) = 0
        · exact Or.inr (p2 z)
        · exact Or.inl (by omega)
      · exact Or.inr h
  unfold fD
  rcases go n (Nat.le_refl n) with h | h <;> omega
def tmW : List Nat := [110, 117, 121, 122, 123, 124, 125, 126, 127, 128, 129, 130, 131, 132, 133, 134]
/-- what taking a line over leaves, the reference -/
def TmB (M M' : am_Mem) (r : Nat) : Prop := Fs tmW M M' ∧ (∀ y, ¬ y = 35 → ¬ y = 38 → ¬ y = 39 → am_I M' 110 y = am_I M 110 y) ∧ am_J M' 110 = am_J M 110 ∧ (∀ z, z < 124 * r → am_I M' 117 z = am_I M 117 z) ∧ (∀ u, ¬ u = r → am_I M' 121 u = am_I M 121 u ∧ am_I M' 122 u = am_I M 122 u ∧ am_I M' 123 u = am_I M 123 u ∧ am_I M' 125 u = am_I M 125 u ∧ am_I M' 126 u = am_I M 126 u) ∧ NtB M M' r
theorem tmb_trans {M M1 M2 : am_Mem} {r : Nat} (h : TmB M M1 r) (g : TmB M1 M2 r) : TmB M M2 r := by
  obtain ⟨h1, h2, h3, h4, h5, h6⟩ := h
  obtain ⟨g1, g2, g3, g4, g5, g6⟩ := g
  refine ⟨fs_trans h1 g1, fun y a b c => (g2 y a b c).trans (h2 y a b c), g3.trans h3, fun z hz => (g4 z hz).trans (h4 z hz), fun u hu => ?_, ntb_trans h6 g6⟩
  obtain ⟨a1, a2, a3, a4, a5⟩ := h5 u hu
  obtain ⟨b1, b2, b3, b4, b5⟩ := g5 u hu
  exact ⟨b1.trans a1, b2.trans a2, b3.trans a3, b4.trans a4, b5.trans a5⟩
theorem tmb_rw {M M' : am_Mem} {r : Nat} (h : RwB M M' r) : TmB M M' r :=
  ⟨fs_mono h.1 (by decide), fun y _ _ _ => by rw [fs_I h.1 (by decide)], fs_J h.1 (by decide), h.2, fun u _ => by rw [fs_I h.1 (by decide), fs_I h.1 (by decide), fs_I h.1 (by decide), fs_I h.1 (by decide), fs_I h.1 (by decide)]; exact ⟨rfl, rfl, rfl, rfl, rfl⟩, ntb_J (fs_J h.1 (by decide)) (fs_J h.1 (by decide)) (fs_J h.1 (by decide))⟩
theorem tmb_dm {M M' : am_Mem} {r : Nat} (h : DmB M M' r) : TmB M M' r :=
  ⟨fs_mono h.1 (by decide), fun y a _ _ => h.2.1 y a, h.2.2.1, h.2.2.2.1, fun u hu => ⟨by rw [fs_I h.1 (by decide)], by rw [fs_I h.1 (by decide)], by rw [fs_I h.1 (by decide)], h.2.2.2.2 u hu, by rw [fs_I h.1 (by decide)]⟩, ntb_J (fs_J h.1 (by decide)) (fs_J h.1 (by decide)) (fs_J h.1 (by decide))⟩
theorem tmb_nm {M M' : am_Mem} {r : Nat} (h : NmB M M' r) : TmB M M' r :=
  ⟨fs_mono h.1 (by decide), h.2.1, h.2.2.1, h.2.2.2.1, fun u hu => ⟨by rw [fs_I h.1 (by decide)], by rw [fs_I h.1 (by decide)], by rw [fs_I h.1 (by decide)], by rw [fs_I h.1 (by decide)], h.2.2.2.2.1 u hu⟩, h.2.2.2.2.2⟩
theorem tmb_wI (M : am_Mem) (r : Nat) {t : Nat} (i : Nat) (v : Int32) (h : t = 124 ∨ (i = r ∧ (t = 121 ∨ t = 122 ∨ t = 123 ∨ t = 125 ∨ t = 126))) : TmB M (am_wI M t i v) r := by
  have ht : t ∈ tmW ∧ ¬ t = 110 ∧ ¬ t = 117 := by
    rcases h with h | ⟨_, h | h | h | h | h⟩ <;> rw [h] <;> decide
  refine ⟨fs_wI _ _ _ ht.1, fun y _ _ _ => by rw [rI_ne _ _ _ (fun e => ht.2.1 e.symm)], by rw [qJ_wI], fun z _ => by rw [rI_ne _ _ _ (fun e => ht.2.2 e.symm)], fun u hu => ?_, ntb_J (by rw [qJ_wI]) (by rw [qJ_wI]) (by rw [qJ_wI])⟩
  have one : ∀ c, ¬ c = 124 → am_I (am_wI M t i v) c u = am_I M c u := fun c hc => by
    by_cases e : c = t
    · rcases h with h | ⟨h, _⟩
      · exact absurd (e.trans h) hc
      · rw [e, rI_ix _ _ _ (by omega)]
    · rw [rI_ne _ _ _ e]
  exact ⟨one 121 (by decide), one 122 (by decide), one 123 (by decide), one 125 (by decide), one 126 (by decide)⟩
/-- the reference tells what a line comes to -/
def LmQ (M : am_Mem) (j : Nat) (d : Ld) (q : Rc) : Prop := RowR M 117 (124 * j) q ∧ am_I M 121 j = nI d.1 ∧ ((d.1 = 0 ∧ ∃ k, DqR d.2.1 q k ∧ am_I M 125 j = nI k) ∨ (d.1 = 1 ∧ q = qN (wA d) (wB d) (wK d) (pK d) ∧ am_J M 127 j = lI (fD (wA d) (wB d) (wK d) (pK d)) ∧ am_I M 126 j = nI (cN (wA d) (wB d) (wK d) (pK d)) ∧ am_I M 122 j = nI (pK d + 1) ∧ am_I M 123 j = nI (wK d) ∧ (0 < fD (wA d) (wB d) (wK d) (pK d) → FlM M j (wA d) (wB d) (wK d) (pK d))))
theorem lmq_keep {M M' : am_Mem} {r j : Nat} {d : Ld} {q : Rc} (b : TmB M M' r) (hj : j < r) (ok : LdOk d) (hq : q.2.2.2.length ≤ 40) (h : LmQ M j d q) : LmQ M' j d q := by
  obtain ⟨b1, b2, b3, b4, b5, b6⟩ := b
  obtain ⟨c1, c2, c3, c4, c5⟩ := b5 j (by omega)
  obtain ⟨h1, h2, h3⟩ := h
  refine ⟨rowr_fr hq (fun k hk => b4 _ (by omega)) h1, by rw [c1]; exact h2, ?_⟩
  rcases h3 with ⟨a1, k, a2, a3⟩ | ⟨a1, a2, a3, a4, a5, a6, a7⟩
  · exact Or.inl ⟨a1, k, a2, by rw [c4]; exact a3⟩
  · obtain ⟨p0, p8, pe, w14, wl, wf⟩ := nt_ok ok a1
    refine Or.inr ⟨a1, a2, by rw [b6.1 j (by omega)]; exact a3, by rw [c5]; exact a4, by rw [c2]; exact a5, by rw [c3]; exact a6, fun z => ?_⟩
    obtain ⟨f1, f2⟩ := a7 z
    exact ⟨fun q hq => by rw [b6.2.1 _ (by omega)]; exact f1 q hq, fun x hx => by rw [b6.2.2 _ (by omega)]; exact f2 x hx⟩
section
variable {N r : Nat} {k18 : Nat → Int32 → am_Mem → Option (Unit × am_Mem)}
theorem tz_l (hr : r < 6) : ∀ m z fuel M, z + m = 124 → m < fuel → Shp M → (∀ y, y < z → am_I M 117 (124 * r + y) = 0) → ∃ M' f', fn12_takesOver_b28 N k18 fuel 110 (nI r) (nI z) M = fn12_takesOver_b28 N k18 (f' + 1) 110 (nI r) (nI 124) M' ∧ RwB M M' r ∧ ∀ y, y < 124 → am_I M' 117 (124 * r + y) = 0 := by
  intro m
  induction m with
  | zero =>
    intro z fuel M hz hf s h
    obtain ⟨g, rfl⟩ : ∃ g, fuel = g + 1 := ⟨fuel - 1, by omega⟩
    have e : z = 124 := by omega
    subst e
    exact ⟨M, g, rfl, ⟨fs_refl _ _, fun _ _ => rfl⟩, h⟩
  | succ m ih =>
    intro z fuel M hz hf s h
    obtain ⟨g, rfl⟩ : ∃ g, fuel = g + 1 := ⟨fuel - 1, by omega⟩
    have st : fn12_takesOver_b28 N k18 (g + 1) 110 (nI r) (nI z) M = fn12_takesOver_b28 N k18 g 110 (nI r) (nI (z + 1)) (am_wI M 117 (124 * r + z) 0) := by
      show fn12_takesOver_b28B N k18 (fn12_takesOver_b28 N k18 g) 110 (nI r) (nI z) M = _
      unfold fn12_takesOver_b28B
      rw [if_neg (show ¬ (124 : Int32) ≤ nI z from nI_ge (b := 124) (by omega) (by decide)), nk_k, sk110 s, nk_dd, pt_m s (by omega) (by omega), nk_bd, nI_1]
    rw [st]
    have f1 : RwB M (am_wI M 117 (124 * r + z) 0) r := ⟨fs_wI _ _ _ List.mem_cons_self, fun y hy => by rw [rI_ix _ _ _ (by omega)]⟩
    obtain ⟨M', f', a1, a2, a3⟩ := ih (z + 1) g _ (by omega) (by omega) (fs_shp f1.1 s) (fun y hy => by
      rw [rI_if]
      by_cases e : y = z
      · rw [if_pos (by omega)]
      · rw [if_neg (by omega)]; exact h y (by omega))
    exact ⟨M', f', a1, rwb_trans f1 a2, a3⟩
theorem tc_l (hr : r < 6) : ∀ m k fuel M, k + m = 28 → m < fuel → Shp M → (∀ y, y < k → am_I M 124 (28 * r + y) = am_I M 116 (29 * r + y)) → ∃ M' f', fn12_takesOver_b115 N k18 fuel 110 (nI r) (nI k) M = fn12_takesOver_b115 N k18 (f' + 1) 110 (nI r) (nI 28) M' ∧ Fs [124] M M' ∧ TmB M M' r ∧ ∀ y, y < 28 → am_I M' 124 (28 * r + y) = am_I M 116 (29 * r + y) := by
  intro m
  induction m with
  | zero =>
    intro k fuel M hk hf s h
    obtain ⟨g, rfl⟩ : ∃ g, fuel = g + 1 := ⟨fuel - 1, by omega⟩
    have e : k = 28 := by omega
    subst e
    exact ⟨M, g, rfl, fs_refl _ _, tmb_rw ⟨fs_refl _ _, fun _ _ => rfl⟩, h⟩
  | succ m ih =>
    intro k fuel M hk hf s h
    obtain ⟨g, rfl⟩ : ∃ g, fuel = g + 1 := ⟨fuel - 1, by omega⟩
    have e28 : (28 : Int32) * nI r + nI k = nI (28 * r + k) := by
      rw [show (28 : Int32) * nI r = nI (28 * r) from (Int32.ofNat_mul 28 _).symm, lw_add]
    have st : fn12_takesOver_b115 N k18 (g + 1) 110 (nI r) (nI k) M = fn12_takesOver_b115 N k18 g 110 (nI r) (nI (k + 1)) (am_wI M 124 (28 * r + k) (am_I M 116 (29 * r + k))) := by
      show fn12_takesOver_b115B N k18 (fn12_takesOver_b115 N k18 g) 110 (nI r) (nI k) M = _
      unfold fn12_takesOver_b115B
      rw [if_neg (show ¬ (28 : Int32) ≤ nI k from nI_ge (b := 28) (by omega) (by decide)), nk_k, sk110 s, nk_dd, sr110_16 s, nk_k, sk116 s, nk_dd, sl116 s, i29, nk_in (show 29 * r + k < 174 by omega) (by decide), nk_ck, sr110_26 s, nk_k, sk124 s, nk_dd, sl124 s, e28, nk_in (show 28 * r + k < 168 by omega) (by decide), nk_ck, nI_clamp (show 28 * r + k < 2147483648 by omega), nI_clamp (show 29 * r + k < 2147483648 by omega), nI_1]
    rw [st]
    have f1 : Fs [124] M (am_wI M 124 (28 * r + k) (am_I M 116 (29 * r + k))) := fs_wI _ _ _ List.mem_cons_self
    have b1 : TmB M (am_wI M 124 (28 * r + k) (am_I M 116 (29 * r + k))) r := tmb_wI M r _ _ (Or.inl rfl)
    obtain ⟨M', f', a1, a2, a3, a4⟩ := ih (k + 1) g _ (by omega) (by omega) (fs_shp f1 s) (fun y hy => by
      rw [rI_if, rI_ne _ _ _ (by decide)]
      by_cases e : y = k
      · rw [if_pos (by omega), e]
      · rw [if_neg (by omega)]; exact h y (by omega))
    refine ⟨M', f', a1, fs_trans f1 a2, tmb_trans b1 a3, fun y hy => ?_⟩
    rw [a4 y hy, rI_ne _ _ _ (by decide)]
/-- one line taken over, the reference -/
theorem tl_m {d : Ld} {M : am_Mem} (hN : 100000 ≤ N) (hr : r < 6) (s : Shp M) (ok : LdOk d) (lm : LdM M r d) : ∃ q M', fn12_takesOver_b28 N k18 N 110 (nI r) (0 : Int32) M = k18 110 (nI (r + 1)) M' ∧ TmB M M' r ∧ LmQ M' r d q ∧ Good q := by
  obtain ⟨M1, f', a1, a2, a3⟩ := tz_l (N := N) (k18 := k18) hr 124 0 N M (by omega) (by omega) s (fun y hy => absurd hy (Nat.not_lt_zero y))
  have s1 := fs_shp a2.1 s
  have b1 := tmb_rw a2
  have kd : d.1 = 0 ∨ d.1 = 1 := by
    rcases ok with h | h
    · exact Or.inl h.1
    · exact Or.inr h.1
  have e13 : am_I M1 113 r = nI d.1 := by
    rw [fs_I a2.1 (by decide)]
    rcases lm with h | h
    · rw [h.2.1, h.1]; rfl
    · rw [h.2.1, h.1]; rfl
  have m1 : ∃ pp ww, fn12_takesOver_b28 N k18 (f' + 1) 110 (nI r) (nI 124) M1 = fn12_takesOver_b115 N k18 N 110 (nI r) (nI 0) (am_wI (am_wI (am_wI M1 121 r (nI d.1)) 122 r pp) 123 r ww) ∧ (d.1 = 1 → pp = nI (pK d + 1) ∧ ww = nI (wK d)) := by
    have n1 : ¬ 113 = 121 := by decide
    have n2 : ¬ 113 = 122 := by decide
    have n3 : ¬ 115 = 121 := by decide
    have n4 : ¬ 114 = 122 := by decide
    have n5 : ¬ 114 = 121 := by decide
    have i6 : am_in (nI r) 6 = true := nk_in hr (by decide)
    have cr : (nI r).toNatClampNeg = r := nI_clamp (by omega)
    have h124 : (124 : Int32) ≤ nI 124 := nI_le (a := 124) (Nat.le_refl _) (by decide)
    rcases kd with k0 | k1
    · refine ⟨0, 0, ?_, fun z => by omega⟩
      show fn12_takesOver_b28B N k18 (fn12_takesOver_b28 N k18 f') 110 (nI r) (nI 124) M1 = _
      unfold fn12_takesOver_b28B fn12_takesOver_b84 fn12_takesOver_b112
      have z0 : ¬ nI d.1 = (1 : Int32) := by rw [k0]; decide
      rw [if_pos h124]
      simp only [nk_k, qK_wI, qL_wI, qR_wI, sk110 s1, eq_self, decide_true, nk_ck, sr110_13 s1, sk113 s1, sl113 s1, i6, sr110_23 s1, sk121 s1, sl121 s1, cr, e13, rI_ne _ _ _ n1, rI_ne _ _ _ n2, z0, if_false, sr110_24 s1, sk122 s1, sl122 s1, sr110_25 s1, sk123 s1, sl123 s1]
      rfl
    · obtain ⟨p0, p8, pe, w14, wl, wf⟩ := nt_ok ok k1
      have e14 : am_I M1 114 r = nI (2 * wK d) ∧ am_I M1 115 r = nI (pK d + 1) := by
        rw [fs_I a2.1 (by decide), fs_I a2.1 (by decide)]
        rcases lm with h | h
        · omega
        · rw [h.2.2.1, h.2.2.2.1, wl, pe]; exact ⟨rfl, rfl⟩
      have dv : nI (2 * wK d) / 2 = nI (wK d) := by
        have := ii_div (d := 2) (z := ((2 * wK d : Nat) : Int)) (by decide) (by decide) (by omega) ⟨(wK d : Int), by omega⟩
        rw [show ((2 * wK d : Nat) : Int) / 2 = (wK d : Int) by omega] at this
        exact this
      refine ⟨nI (pK d + 1), nI (wK d), ?_, fun _ => ⟨rfl, rfl⟩⟩
      show fn12_takesOver_b28B N k18 (fn12_takesOver_b28 N k18 f') 110 (nI r) (nI 124) M1 = _
      unfold fn12_takesOver_b28B fn12_takesOver_b84 fn12_takesOver_b112
      have z1 : nI d.1 = (1 : Int32) := by rw [k1]; rfl
      have z2 : ((1 : Int32) = (1 : Int32)) = True := eq_self _
      rw [if_pos h124]
      simp only [nk_k, qK_wI, qL_wI, qR_wI, sk110 s1, eq_self, decide_true, nk_ck, sr110_13 s1, sk113 s1, sl113 s1, i6, sr110_23 s1, sk121 s1, sl121 s1, cr, e13, rI_ne _ _ _ n1, rI_ne _ _ _ n2, z1, if_true, sr110_15 s1, sk115 s1, sl115 s1, rI_ne _ _ _ n3, e14.2, sr110_14 s1, sk114 s1, sl114 s1, rI_ne _ _ _ n4, rI_ne _ _ _ n5, e14.1, dv, sr110_24 s1, sk122 s1, sl122 s1, sr110_25 s1, sk123 s1, sl123 s1]
      rfl
  obtain ⟨pp, ww, m2, m3⟩ := m1
  have b2 : TmB M1 (am_wI (am_wI (am_wI M1 121 r (nI d.1)) 122 r pp) 123 r ww) r := tmb_trans (tmb_wI M1 r r _ (Or.inr ⟨rfl, by omega⟩)) (tmb_trans (tmb_wI _ r r _ (Or.inr ⟨rfl, by omega⟩)) (tmb_wI _ r r _ (Or.inr ⟨rfl, by omega⟩)))
  have f2 : Fs [121, 122, 123] M1 (am_wI (am_wI (am_wI M1 121 r (nI d.1)) 122 r pp) 123 r ww) := fs_trans (fs_trans (fs_wI _ _ _ (by decide)) (fs_wI _ _ _ (by decide))) (fs_wI _ _ _ (by decide))
  have x121 : am_I (am_wI (am_wI (am_wI M1 121 r (nI d.1)) 122 r pp) 123 r ww) 121 r = nI d.1 := by rw [rI_ne _ _ _ (by decide), rI_ne _ _ _ (by decide), rI_eq]
  have x122 : am_I (am_wI (am_wI (am_wI M1 121 r (nI d.1)) 122 r pp) 123 r ww) 122 r = pp := by rw [rI_ne _ _ _ (by decide), rI_eq]
  have x123 : am_I (am_wI (am_wI (am_wI M1 121 r (nI d.1)) 122 r pp) 123 r ww) 123 r = ww := rI_eq _ _ _ _
  have a1' : fn12_takesOver_b28 N k18 N 110 (nI r) (0 : Int32) M = _ := a1
  rw [a1', m2]
  revert b2 f2 x121 x122 x123
  generalize am_wI (am_wI (am_wI M1 121 r (nI d.1)) 122 r pp) 123 r ww = M2
  intro b2 f2 x121 x122 x123
  have s2 := fs_shp f2 s1
  obtain ⟨M3, f3', c1, c2, c3, c4⟩ := tc_l (N := N) (k18 := k18) hr 28 0 N M2 (by omega) (by omega) s2 (fun y hy => absurd hy (Nat.not_lt_zero y))
  have s3 := fs_shp c2 s2
  have b4 : TmB M3 (am_wJ (am_wI (am_wI M3 125 r 0) 126 r 0) 127 r 0) r := by
    refine tmb_trans (tmb_trans (tmb_wI M3 r r _ (Or.inr ⟨rfl, by omega⟩)) (tmb_wI _ r r _ (Or.inr ⟨rfl, by omega⟩))) ⟨fs_wJ _ _ _ (by decide), fun y _ _ _ => by rw [qI_wJ], by rw [rJ_ne _ _ _ (by decide)], fun z _ => by rw [qI_wJ], fun u _ => by rw [qI_wJ]; exact ⟨rfl, rfl, rfl, rfl, rfl⟩, fun u hu => by rw [rJ_ix _ _ _ hu], fun z _ => by rw [rJ_ne _ _ _ (by decide)], fun z _ => by rw [rJ_ne _ _ _ (by decide)]⟩
  have f4 : Fs [125, 126, 127] M3 (am_wJ (am_wI (am_wI M3 125 r 0) 126 r 0) 127 r 0) := fs_trans (fs_trans (fs_wI _ _ _ (by decide)) (fs_wI _ _ _ (by decide))) (fs_wJ _ _ _ (by decide))
  have e121 : am_I M3 121 r = nI d.1 := by rw [fs_I c2 (by decide)]; exact x121
  have st : fn12_takesOver_b115 N k18 (f3' + 1) 110 (nI r) (nI 28) M3 = (if nI d.1 = 0 then am_bd (fn12_draws N (am_wJ (am_wI (am_wI M3 125 r 0) 126 r 0) 127 r 0) 110 (nI r)) (fun v13 M14 => k18 110 (nI (r + 1)) M14) else am_bd (fn12_nets N (am_wJ (am_wI (am_wI M3 125 r 0) 126 r 0) 127 r 0) 110 (nI r)) (fun v10 M11 => k18 110 (nI (r + 1)) M11)) := by
    show fn12_takesOver_b115B N k18 (fn12_takesOver_b115 N k18 f3') 110 (nI r) (nI 28) M3 = _
    unfold fn12_takesOver_b115B fn12_takesOver_b192
    have i6 : am_in (nI r) 6 = true := nk_in hr (by decide)
    have cr : (nI r).toNatClampNeg = r := nI_clamp (by omega)
    have n1 : ¬ 121 = 126 := by decide
    have n2 : ¬ 121 = 125 := by decide
    rw [if_pos (show (28 : Int32) ≤ nI 28 from nI_le (a := 28) (Nat.le_refl _) (by decide))]
    simp only [nk_k, sk110 s3, eq_self, decide_true, nk_ck, sr110_27 s3, sk125 s3, sl125 s3, i6, sr110_28 s3, sk126 s3, sl126 s3, sr110_29 s3, sk127 s3, sl127 s3, sr110_23 s3, sk121 s3, sl121 s3, cr, rI_ne _ _ _ n1, rI_ne _ _ _ n2, e121, nI_1]
  rw [c1, st]
  revert b4 f4
  generalize am_wJ (am_wI (am_wI M3 125 r 0) 126 r 0) 127 r 0 = M4
  intro b4 f4
  have s4 := fs_shp f4 s3
  have b04 := tmb_trans b1 (tmb_trans b2 (tmb_trans c3 b4))
  have f14 : Fs [121, 122, 123, 124, 125, 126, 127] M1 M4 := fs_trans (fs_mono f2 (by decide)) (fs_trans (fs_mono c2 (by decide)) (fs_mono f4 (by decide)))
  have z3 : am_I M4 117 (124 * r + 3) = 0 := by rw [fs_I f14 (by decide)]; exact a3 3 (by decide)
  have k114 : am_I M4 114 = am_I M 114 := by rw [fs_I f14 (by decide), fs_I a2.1 (by decide)]
  have k116 : am_I M4 116 = am_I M 116 := by rw [fs_I f14 (by decide), fs_I a2.1 (by decide)]
  have e1214 : am_I M4 121 r = nI d.1 := by rw [fs_I f4 (by decide)]; exact e121
  rcases kd with k0 | k1
  · rw [if_pos (show nI d.1 = (0 : Int32) by rw [k0]; rfl)]
    obtain ⟨ls, hg⟩ := ls_ok ok k0
    have lsm : LsM M4 r d.2.1 := by
      rcases lm with ⟨_, _, h3, h4⟩ | h
      · refine ⟨by rw [k114, h3, sgG_len], fun k hk => ?_⟩
        have hk' : k < (sgG 99 d.2.1).length := by rw [sgG_len]; exact hk
        rw [k116, h4 k hk', sgG_at]
      · omega
    obtain ⟨M5, g1, g2, g3⟩ := dm_ok (N := N) hN hr ls hg s4 lsm z3
    rw [g1, nk_bd]
    have b5 := tmb_trans b04 (tmb_dm g2)
    have e5 : am_I M5 121 r = nI d.1 := by rw [fs_I g2.1 (by decide)]; exact e1214
    have fin : ∃ q k, DqR d.2.1 q k ∧ am_I M5 125 r = nI k ∧ RowR M5 117 (124 * r) q := by
      rcases g3 with ⟨k, h1, h2, h3, h4, h5⟩ | ⟨h1, h2, h3⟩
      · exact ⟨_, k, Or.inl ⟨h1, h2, h3, rfl⟩, h4, h5⟩
      · rcases h3 with ⟨h4, h5⟩ | ⟨h4, h5⟩
        · exact ⟨_, d.2.1.length, Or.inr ⟨h1, rfl, Or.inl ⟨h4, rfl⟩⟩, h2, h5⟩
        · exact ⟨_, d.2.1.length, Or.inr ⟨h1, rfl, Or.inr ⟨h4, rfl⟩⟩, h2, h5⟩
    obtain ⟨q, k, h1, h2, h3⟩ := fin
    exact ⟨q, M5, rfl, b5, ⟨h3, e5, Or.inl ⟨k0, k, h1, h2⟩⟩, dq_good ls h1⟩
  · rw [if_neg (show ¬ nI d.1 = (0 : Int32) by rw [k1]; decide)]
    obtain ⟨p0, p8, pe, w14, wl, wf⟩ := nt_ok ok k1
    obtain ⟨e1, e2⟩ := m3 k1
    have e122 : am_I M4 122 r = nI (pK d + 1) := by rw [fs_I f4 (by decide), fs_I c2 (by decide), x122]; exact e1
    have e123 : am_I M4 123 r = nI (wK d) := by rw [fs_I f4 (by decide), fs_I c2 (by decide), x123]; exact e2
    have k116' : am_I M2 116 = am_I M 116 := by rw [fs_I f2 (by decide), fs_I a2.1 (by decide)]
    have wm : WrM M4 r (wA d) (wB d) (wK d) := by
      refine ⟨e123, fun w hw => ?_⟩
      rcases lm with h | ⟨_, _, h3, h4, h5⟩
      · omega
      · have c5 := c4 (2 * w) (by omega)
        have c6 := c4 (2 * w + 1) (by omega)
        rw [← Nat.add_assoc] at c6
        rw [fs_I f4 (by decide), c5, c6, k116', h5 (2 * w) (by omega), h5 (2 * w + 1) (by omega)]
        unfold wA wB
        rw [List.getD_eq_getElem?_getD, List.getElem?_eq_getElem (show 2 * w < d.2.2.2.length by omega), List.getD_eq_getElem?_getD, List.getElem?_eq_getElem (show 2 * w + 1 < d.2.2.2.length by omega)]
        exact ⟨rfl, rfl⟩
    obtain ⟨M5, g1, g2, g3, g4⟩ := nm_ok (N := N) hN hr p8 p0 w14 wf s4 e122 wm (fd_nn _ _ _ _) z3
    rw [g1, nk_bd]
    have b5 := tmb_trans b04 (tmb_nm g2)
    have e5 : am_I M5 121 r = nI d.1 := by rw [fs_I g2.1 (by decide)]; exact e1214
    have e1225 : am_I M5 122 r = nI (pK d + 1) := by rw [fs_I g2.1 (by decide)]; exact e122
    have e1235 : am_I M5 123 r = nI (wK d) := by rw [fs_I g2.1 (by decide)]; exact e123
    refine ⟨qN (wA d) (wB d) (wK d) (pK d), M5, rfl, b5, ?_, qn_good p0 w14⟩
    rcases g4 with ⟨h1, h2, h3⟩ | ⟨h1, h2, h3, h4⟩
    · have c0 : ¬ 0 < fD (wA d) (wB d) (wK d) (pK d) := by omega
      have eq : qN (wA d) (wB d) (wK d) (pK d) = (1, 0, 0, []) := by unfold qN; rw [if_neg (fun c => c0 c.1)]
      rw [eq]
      exact ⟨h3, e5, Or.inr ⟨k1, eq.symm, g3, by unfold cN; rw [if_neg c0]; exact h2, e1225, e1235, fun z => absurd z c0⟩⟩
    · have ec : cN (wA d) (wB d) (wK d) (pK d) = (srN (wA d) (wB d) (wK d) (pK d)).2.1 := by unfold cN; rw [if_pos h1]
      rcases h4 with ⟨z1, z2⟩ | ⟨z1, z2⟩
      · have eq : qN (wA d) (wB d) (wK d) (pK d) = (0, nI (nW (wA d) (wB d) (wK d) (pK d)), nI (nH (wA d) (wB d) (wK d) (pK d)), ofF (fN (nSz (wA d) (wB d) (wK d) (pK d)) (nW (wA d) (wB d) (wK d) (pK d)) (srN (wA d) (wB d) (wK d) (pK d)).2.2) (cnN (nSz (wA d) (wB d) (wK d) (pK d)) (wK d))) := by unfold qN; rw [if_pos ⟨h1, z1⟩]
        rw [eq]
        exact ⟨z2, e5, Or.inr ⟨k1, eq.symm, g3, by rw [ec]; exact h3, e1225, e1235, fun _ => h2⟩⟩
      · have eq : qN (wA d) (wB d) (wK d) (pK d) = (1, 0, 0, []) := by unfold qN; rw [if_neg (fun c => z1 c.2)]
        rw [eq]
        exact ⟨z2, e5, Or.inr ⟨k1, eq.symm, g3, by rw [ec]; exact h3, e1225, e1235, fun _ => h2⟩⟩
end
