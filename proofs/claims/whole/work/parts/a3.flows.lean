theorem i9r (r p : Nat) : (9 : Int32) * nI r + nI p = nI (9 * r + p) := by
  rw [show (9 : Int32) * nI r = nI (9 * r) from (Int32.ofNat_mul 9 _).symm, lw_add]
theorem i14r (r p : Nat) : (14 : Int32) * nI r + nI p = nI (14 * r + p) := by
  rw [show (14 : Int32) * nI r = nI (14 * r) from (Int32.ofNat_mul 14 _).symm, lw_add]
theorem i_even {p : Nat} (hp : p < 9) : (nI p - nI p / 2 * 2 = 0) ↔ p % 2 = 0 := by
  match p, hp with
  | 0, _ => decide
  | 1, _ => decide
  | 2, _ => decide
  | 3, _ => decide
  | 4, _ => decide
  | 5, _ => decide
  | 6, _ => decide
  | 7, _ => decide
  | 8, _ => decide
section
variable {N r : Nat}
theorem fz_m (hr : r < 6) : ∀ m p fuel M, p + m = 9 → m < fuel → Shp M → (∀ q, q < p → am_J M 128 (9 * r + q) = 0) → ∃ M', fn12_flows_b19 N fuel 110 (nI r) (nI p) M = fn12_flows_b45 N N 110 (nI r) (nI 0) M' ∧ Fs [128] M M' ∧ (∀ q, q < 9 → am_J M' 128 (9 * r + q) = 0) ∧ ∀ z, z < 9 * r → am_J M' 128 z = am_J M 128 z := by
  intro m
  induction m with
  | zero =>
    intro p fuel M hp hf s h
    obtain ⟨g, rfl⟩ : ∃ g, fuel = g + 1 := ⟨fuel - 1, by omega⟩
    refine ⟨M, ?_, fs_refl _ _, fun q hq => h q (by omega), fun _ _ => rfl⟩
    show fn12_flows_b19B N (fn12_flows_b19 N g) 110 (nI r) (nI p) M = _
    unfold fn12_flows_b19B
    rw [if_pos (show (9 : Int32) ≤ nI p from nI_le (a := 9) (by omega) (by omega))]
    rfl
  | succ m ih =>
    intro p fuel M hp hf s h
    obtain ⟨g, rfl⟩ : ∃ g, fuel = g + 1 := ⟨fuel - 1, by omega⟩
    have st : fn12_flows_b19 N (g + 1) 110 (nI r) (nI p) M = fn12_flows_b19 N g 110 (nI r) (nI (p + 1)) (am_wJ M 128 (9 * r + p) 0) := by
      show fn12_flows_b19B N (fn12_flows_b19 N g) 110 (nI r) (nI p) M = _
      unfold fn12_flows_b19B
      rw [if_neg (show ¬ (9 : Int32) ≤ nI p from nI_ge (b := 9) (by omega) (by decide)), nk_k, sk110 s, nk_dd, sr110_30 s, nk_k, sk128 s, nk_dd, sl128 s, i9r, nk_in (show 9 * r + p < 54 by omega) (by decide), nk_ck, nI_clamp (by omega), nI_1]
    rw [st]
    have f1 : Fs [128] M (am_wJ M 128 (9 * r + p) 0) := fs_wJ _ _ _ List.mem_cons_self
    obtain ⟨M', a1, a2, a3, a4⟩ := ih (p + 1) g _ (by omega) (by omega) (fs_shp f1 s) (fun q hq => by
      by_cases e : q = p
      · rw [e, rJ_eq]
      · rw [rJ_ix _ _ _ (by omega)]; exact h q (by omega))
    exact ⟨M', a1, fs_trans f1 a2, a3, fun z hz => by rw [a4 z hz, rJ_ix _ _ _ (by omega)]⟩
theorem fy_m (hr : r < 6) : ∀ m p fuel M, p + m = 14 → m < fuel → Shp M → ∃ M', fn12_flows_b45 N fuel 110 (nI r) (nI p) M = (if lg_cmp (am_J M' 127 r) 0 = 0 then some ((), M') else fn12_flows_b83 N N 110 (nI r) (nI 0) M') ∧ Fs [129] M M' ∧ (∀ q, p ≤ q → q < 14 → am_J M' 129 (14 * r + q) = 0) ∧ (∀ z, z < 14 * r + p → am_J M' 129 z = am_J M 129 z) := by
  intro m
  induction m with
  | zero =>
    intro p fuel M hp hf s
    obtain ⟨g, rfl⟩ : ∃ g, fuel = g + 1 := ⟨fuel - 1, by omega⟩
    refine ⟨M, ?_, fs_refl _ _, fun q h1 h2 => by omega, fun _ _ => rfl⟩
    show fn12_flows_b45B N (fn12_flows_b45 N g) 110 (nI r) (nI p) M = _
    unfold fn12_flows_b45B
    rw [if_pos (show (14 : Int32) ≤ nI p from nI_le (a := 14) (by omega) (by omega)), nk_k, sk110 s, nk_dd, sr110_29 s, nk_k, sk127 s, nk_dd, sl127 s, nk_in hr (by decide), nk_ck, nI_clamp (by omega)]
    rfl
  | succ m ih =>
    intro p fuel M hp hf s
    obtain ⟨g, rfl⟩ : ∃ g, fuel = g + 1 := ⟨fuel - 1, by omega⟩
    have st : fn12_flows_b45 N (g + 1) 110 (nI r) (nI p) M = fn12_flows_b45 N g 110 (nI r) (nI (p + 1)) (am_wJ M 129 (14 * r + p) 0) := by
      show fn12_flows_b45B N (fn12_flows_b45 N g) 110 (nI r) (nI p) M = _
      unfold fn12_flows_b45B
      rw [if_neg (show ¬ (14 : Int32) ≤ nI p from nI_ge (b := 14) (by omega) (by decide)), nk_k, sk110 s, nk_dd, sr110_31 s, nk_k, sk129 s, nk_dd, sl129 s, i14r, nk_in (show 14 * r + p < 84 by omega) (by decide), nk_ck, nI_clamp (by omega), nI_1]
    rw [st]
    have f1 : Fs [129] M (am_wJ M 129 (14 * r + p) 0) := fs_wJ _ _ _ List.mem_cons_self
    obtain ⟨M', a1, a2, a3, a4⟩ := ih (p + 1) g _ (by omega) (by omega) (fs_shp f1 s)
    refine ⟨M', a1, fs_trans f1 a2, fun q h1 h2 => ?_, fun z hz => ?_⟩
    · by_cases e : q = p
      · rw [e, a4 _ (by omega), rJ_eq]
      · exact a3 q (by omega) h2
    · rw [a4 z (by omega), rJ_ix _ _ _ (by omega)]
variable {a b : Nat → Nat} {W n : Nat}
/-- a minor without the first row and one column -/
theorem mn_ok {M : am_Mem} {p : Nat} (hN : 100000 ≤ N) (hr : r < 6) (hn : n ≤ 8) (hp : p < n) (hW : W ≤ 14) (ha : ∀ w, w < W → a w ≤ n ∧ b w ≤ n ∧ ¬ a w = b w) (s : Shp M) (h2 : am_I M 122 r = nI (n + 1)) (wm : WrM M r a b W) : ∃ M1 M2, fn12_laysMatrix N M 110 (nI r) 0 (nI p) = some (nI (n - 1), M1) ∧ Shp M1 ∧ fn12_determinant N M1 110 (nI (n - 1)) = some (lI (dt (n - 1) (fun i => i + 1) (skp p (Lap a b W))), M2) ∧ Fs [133] M M2 := by
  obtain ⟨M1, a1, a2, a3⟩ := lo_ok (N := N) hN hr hn hp hW ha s h2 wm
  obtain ⟨m, rfl⟩ : ∃ m, n = m + 1 := ⟨n - 1, by omega⟩
  rw [Nat.add_sub_cancel] at a1 a3 ⊢
  obtain ⟨M2, b1, b2⟩ := de_ok (N := N) (n := m) (c := skp p (Lap a b W)) (ρ := fun i => i + 1) (R := fun x => dgr a b W x * 2) hN (by omega) (fs_shp a2 s) (fun i hi => by
    refine Nat.le_trans ?_ (lap_row (n := m + 1) (i + 1))
    have t := smn_skp (fun q => (Lap a b W q (i + 1)).natAbs) p m
    rw [smn_congr (n := m) (g := fun q => if q < p then (Lap a b W q (i + 1)).natAbs else (Lap a b W (q + 1) (i + 1)).natAbs) (fun q hq => ?_)]
    · omega
    · by_cases l : q < p
      · rw [skp_lt _ l, if_pos l]
      · rw [skp_ge _ (by omega), if_neg l]) (by
    have h1 := dgr_sum (a := a) (b := b) (W := W) (n := m + 1)
    have t := smn_skp (fun i => dgr a b W i * 2) 0 m
    rw [smn_congr (n := m) (g := fun q => if q < 0 then dgr a b W q * 2 else dgr a b W (q + 1) * 2) (fun q hq => by rw [if_neg (Nat.not_lt_zero q)])]
    omega) a3
  exact ⟨M1, M2, a1, fs_shp a2 s, b1, fs_trans a2 b2⟩
theorem fl_m (hN : 100000 ≤ N) (hr : r < 6) (hn : n ≤ 8) (hW : W ≤ 14) (ha : ∀ w, w < W → a w ≤ n ∧ b w ≤ n ∧ ¬ a w = b w) : ∀ m p fuel M, p + m = n → m < fuel → Shp M → am_I M 122 r = nI (n + 1) → WrM M r a b W → (∀ q, q < p → am_J M 128 (9 * r + q) = lI (fV a b W n q)) → ∃ M', fn12_flows_b83 N fuel 110 (nI r) (nI p) M = fn12_flows_b141 N N 110 (nI r) 0 (nI 0) M' ∧ Fs [128, 133] M M' ∧ (∀ q, q < n → am_J M' 128 (9 * r + q) = lI (fV a b W n q)) ∧ (∀ z, z < 9 * r ∨ 9 * r + n ≤ z → am_J M' 128 z = am_J M 128 z) := by
  intro m
  induction m with
  | zero =>
    intro p fuel M hp hf s e2 wm h
    obtain ⟨g, rfl⟩ : ∃ g, fuel = g + 1 := ⟨fuel - 1, by omega⟩
    refine ⟨M, ?_, fs_refl _ _, fun q hq => h q (by omega), fun _ _ => rfl⟩
    show fn12_flows_b83B N (fn12_flows_b83 N g) 110 (nI r) (nI p) M = _
    unfold fn12_flows_b83B
    rw [nk_k, sk110 s, nk_dd, sr110_24 s, nk_k, sk122 s, nk_dd, sl122 s, nk_in hr (by decide), nk_ck, nI_clamp (by omega), e2, nI_s1, if_pos (nI_le (by omega) (by omega))]
    rfl
  | succ m ih =>
    intro p fuel M hp hf s e2 wm h
    obtain ⟨g, rfl⟩ : ∃ g, fuel = g + 1 := ⟨fuel - 1, by omega⟩
    obtain ⟨M1, M2, a1, s1, a2, a3⟩ := mn_ok (N := N) (p := p) hN hr hn (by omega) hW ha s e2 wm
    have s2 := fs_shp a3 s
    have ev : fV a b W n p = sgn p * dt (n - 1) (fun i => i + 1) (skp p (Lap a b W)) := by rw [fv_lt (by omega)]; rfl
    have st : fn12_flows_b83 N (g + 1) 110 (nI r) (nI p) M = fn12_flows_b83 N g 110 (nI r) (nI (p + 1)) (am_wJ M2 128 (9 * r + p) (lI (fV a b W n p))) := by
      show fn12_flows_b83B N (fn12_flows_b83 N g) 110 (nI r) (nI p) M = _
      unfold fn12_flows_b83B fn12_flows_b129
      rw [nk_k, sk110 s, nk_dd, sr110_24 s, nk_k, sk122 s, nk_dd, sl122 s, nk_in hr (by decide), nk_ck, nI_clamp (by omega), e2, nI_s1, if_neg (nI_ge (by omega) (by omega)), a1, nk_bd, nk_k, sk110 s1, nk_dd, a2, nk_bd, nk_k, sk110 s2, nk_dd, sr110_30 s2, nk_k, sk128 s2, nk_dd, sl128 s2, i9r, nk_in (show 9 * r + p < 54 by omega) (by decide), nk_ck, nI_clamp (by omega), nI_1, ev]
      unfold sgn
      by_cases q : p % 2 = 0
      · rw [if_pos ((i_even (by omega)).mpr q), if_pos q, Int.one_mul]
      · rw [if_neg (fun e => q ((i_even (by omega)).mp e)), if_neg q, nk_dd, nk_ck, show -lI (dt (n - 1) (fun i => i + 1) (skp p (Lap a b W))) = lI (-(dt (n - 1) (fun i => i + 1) (skp p (Lap a b W)))) from (Int64.ofInt_neg _).symm]
        refine congrArg (fun z => fn12_flows_b83 N g 110 (nI r) (nI (p + 1)) (am_wJ M2 128 (9 * r + p) (lI z))) ?_
        omega
    rw [st]
    have f1 : Fs [128, 133] M (am_wJ M2 128 (9 * r + p) (lI (fV a b W n p))) := fs_trans (fs_mono a3 (by decide)) (fs_wJ _ _ _ (by decide))
    obtain ⟨M', c1, c2, c3, c4⟩ := ih (p + 1) g _ (by omega) (by omega) (fs_shp f1 s) (by rw [fs_I f1 (by decide)]; exact e2) ⟨by rw [fs_I f1 (by decide)]; exact wm.1, fun u hu => by rw [fs_I f1 (by decide)]; exact wm.2 u hu⟩ (fun q hq => by
      by_cases e : q = p
      · rw [e, rJ_eq]
      · rw [rJ_ix _ _ _ (by omega), fs_J a3 (by decide)]; exact h q (by omega))
    exact ⟨M', c1, fs_trans f1 c2, c3, fun z hz => by rw [c4 z hz, rJ_ix _ _ _ (by omega), fs_J a3 (by decide)]⟩
theorem lN_li (k : Nat) : lN k = lI (k : Int) := rfl
theorem fc_m (hN : 100000 ≤ N) (hr : r < 6) (hn : n ≤ 8) (hW : W ≤ 14) (ha : ∀ w, w < W → a w ≤ n ∧ b w ≤ n ∧ ¬ a w = b w) : ∀ m w fuel M, w + m = W → m < fuel → Shp M → WrM M r a b W → (∀ q, q ≤ n → am_J M 128 (9 * r + q) = lI (fV a b W n q)) → (∀ x, x < w → am_J M 129 (14 * r + x) = lI (fC a b W n x)) → ∃ M', fn12_flows_b141 N fuel 110 (nI r) (lN (fG a b W n w)) (nI w) M = fn12_flows_b241 N N 110 (nI r) (lN (fG a b W n W)) (nI 0) M' ∧ Fs [129] M M' ∧ (∀ x, x < W → am_J M' 129 (14 * r + x) = lI (fC a b W n x)) ∧ (∀ z, z < 14 * r → am_J M' 129 z = am_J M 129 z) := by
  intro m
  induction m with
  | zero =>
    intro w fuel M hw hf s wm h1 h2
    obtain ⟨g, rfl⟩ : ∃ g, fuel = g + 1 := ⟨fuel - 1, by omega⟩
    have e : w = W := by omega
    subst e
    refine ⟨M, ?_, fs_refl _ _, h2, fun _ _ => rfl⟩
    show fn12_flows_b141B N (fn12_flows_b141 N g) 110 (nI r) _ (nI w) M = _
    unfold fn12_flows_b141B
    rw [nk_k, sk110 s, nk_dd, sr110_25 s, nk_k, sk123 s, nk_dd, sl123 s, nk_in hr (by decide), nk_ck, nI_clamp (by omega), wm.1, if_pos (nI_le (Nat.le_refl w) (by omega))]
    rfl
  | succ m ih =>
    intro w fuel M hw hf s wm h1 h2
    obtain ⟨g, rfl⟩ : ∃ g, fuel = g + 1 := ⟨fuel - 1, by omega⟩
    obtain ⟨an, bn, _⟩ := ha w (by omega)
    obtain ⟨wa, wb⟩ := wm.2 w (by omega)
    have gl := fg_le (a := a) (b := b) (n := n) hW w
    have cl := fc_le (a := a) (b := b) (n := n) hW w
    have c1 : (nI (28 * r + 2 * w)).toNatClampNeg = 28 * r + 2 * w := nI_clamp (by omega)
    have c2 : (nI (28 * r + 2 * w + 1)).toNatClampNeg = 28 * r + 2 * w + 1 := nI_clamp (by omega)
    have c3 : (nI (9 * r + a w)).toNatClampNeg = 9 * r + a w := nI_clamp (by omega)
    have c4 : (nI (9 * r + b w)).toNatClampNeg = 9 * r + b w := nI_clamp (by omega)
    have c5 : (nI (14 * r + w)).toNatClampNeg = 14 * r + w := nI_clamp (by omega)
    have c6 : (nI r).toNatClampNeg = r := nI_clamp (by omega)
    have i0 : am_in (nI r) 6 = true := nk_in hr (by decide)
    have i1 : am_in (nI (28 * r + 2 * w)) 168 = true := nk_in (by omega) (by decide)
    have i2 : am_in (nI (28 * r + 2 * w + 1)) 168 = true := nk_in (by omega) (by decide)
    have i3 : am_in (nI (9 * r + a w)) 54 = true := nk_in (by omega) (by decide)
    have i4 : am_in (nI (9 * r + b w)) 54 = true := nk_in (by omega) (by decide)
    have i5 : am_in (nI (14 * r + w)) 84 = true := nk_in (by omega) (by decide)
    have sub : lI (fV a b W n (a w)) - lI (fV a b W n (b w)) = lI (fC a b W n w) := (Int64.ofInt_sub _ _).symm
    have tx : (lN (fG a b W n w)).toInt = (fG a b W n w : Int) := li_toInt (z := (fG a b W n w : Int)) (by omega)
    have ty : (lI (fC a b W n w)).toInt = fC a b W n w := li_toInt (by omega)
    have cm := cm_ok (N := N) hN (am_wJ M 129 (14 * r + w) (lI (fC a b W n w))) (x := lN (fG a b W n w)) (y := lI (fC a b W n w)) (by rw [tx]; omega) (by rw [ty]; omega)
    rw [tx, ty, Int.natAbs_natCast] at cm
    have st : fn12_flows_b141 N (g + 1) 110 (nI r) (lN (fG a b W n w)) (nI w) M = fn12_flows_b141 N g 110 (nI r) (lN (fG a b W n (w + 1))) (nI (w + 1)) (am_wJ M 129 (14 * r + w) (lI (fC a b W n w))) := by
      show fn12_flows_b141B N (fn12_flows_b141 N g) 110 (nI r) _ (nI w) M = _
      unfold fn12_flows_b141B
      rw [nk_k, sk110 s, nk_dd, sr110_25 s, nk_k, sk123 s, nk_dd, sl123 s, i0, nk_ck, c6, wm.1, if_neg (nI_ge (by omega) (by omega))]
      simp only [nk_k, eq_self, decide_true, nk_ck, sr110_26 s, sk124 s, sl124 s, i28, i1, c1, wa, nI_1, i2, c2, wb, sr110_30 s, sk128 s, sl128 s, i9r, i3, c3, i4, c4, h1 _ an, h1 _ bn, sub, sr110_31 s, sk129 s, sl129 s, i14r, i5, c5, rJ_eq, cm, nk_bd]
      rfl
    rw [st]
    have f1 : Fs [129] M (am_wJ M 129 (14 * r + w) (lI (fC a b W n w))) := fs_wJ _ _ _ List.mem_cons_self
    obtain ⟨M', d1, d2, d3, d4⟩ := ih (w + 1) g _ (by omega) (by omega) (fs_shp f1 s) ⟨by rw [fs_I f1 (by decide)]; exact wm.1, fun u hu => by rw [fs_I f1 (by decide)]; exact wm.2 u hu⟩ (fun q hq => by rw [fs_J f1 (by decide)]; exact h1 q hq) (fun x hx => by
      by_cases e : x = w
      · rw [e, rJ_eq]
      · rw [rJ_ix _ _ _ (by omega)]; exact h2 x (by omega))
    exact ⟨M', d1, fs_trans f1 d2, d3, fun z hz => by rw [d4 z hz, rJ_ix _ _ _ (by omega)]⟩
theorem fi_m (hr : r < 6) (hW : W ≤ 14) (g0 : ¬ fG a b W n W = 0) : ∀ m w fuel M, w + m = W → m < fuel → Shp M → am_I M 123 r = nI W → (∀ x, x < w → am_J M 129 (14 * r + x) = lI (fI a b W n x)) → (∀ x, w ≤ x → x < W → am_J M 129 (14 * r + x) = lI (fC a b W n x)) → ∃ M', fn12_flows_b241 N fuel 110 (nI r) (lN (fG a b W n W)) (nI w) M = fn12_flows_b277 N N 110 (nI r) (lN (fG a b W n W)) (nI 0) M' ∧ Fs [129] M M' ∧ (∀ x, x < W → am_J M' 129 (14 * r + x) = lI (fI a b W n x)) ∧ (∀ z, z < 14 * r → am_J M' 129 z = am_J M 129 z) := by
  intro m
  have gl := fg_le (a := a) (b := b) (n := n) hW W
  induction m with
  | zero =>
    intro w fuel M hw hf s e1 h1 h2
    obtain ⟨g, rfl⟩ : ∃ g, fuel = g + 1 := ⟨fuel - 1, by omega⟩
    refine ⟨M, ?_, fs_refl _ _, fun x hx => h1 x (by omega), fun _ _ => rfl⟩
    show fn12_flows_b241B N (fn12_flows_b241 N g) 110 (nI r) _ (nI w) M = _
    unfold fn12_flows_b241B
    rw [nk_k, sk110 s, nk_dd, sr110_25 s, nk_k, sk123 s, nk_dd, sl123 s, nk_in hr (by decide), nk_ck, nI_clamp (by omega), e1, if_pos (nI_le (by omega) (by omega))]
    rfl
  | succ m ih =>
    intro w fuel M hw hf s e1 h1 h2
    obtain ⟨g, rfl⟩ : ∃ g, fuel = g + 1 := ⟨fuel - 1, by omega⟩
    have cl := fc_le (a := a) (b := b) (n := n) hW w
    have dv : lI (fC a b W n w) / lN (fG a b W n W) = lI (fI a b W n w) := li_divd (d := (fG a b W n W : Int)) (by omega) (by omega) (by omega) (fg_dvdI (by omega))
    have gz : decide (¬ lN (fG a b W n W) = 0) = true := decide_eq_true (fun z => g0 (by have := (li_0 (a := (fG a b W n W : Int)) (by omega)).mp z; omega))
    have st : fn12_flows_b241 N (g + 1) 110 (nI r) (lN (fG a b W n W)) (nI w) M = fn12_flows_b241 N g 110 (nI r) (lN (fG a b W n W)) (nI (w + 1)) (am_wJ M 129 (14 * r + w) (lI (fI a b W n w))) := by
      show fn12_flows_b241B N (fn12_flows_b241 N g) 110 (nI r) _ (nI w) M = _
      unfold fn12_flows_b241B
      rw [nk_k, sk110 s, nk_dd, sr110_25 s, nk_k, sk123 s, nk_dd, sl123 s, nk_in hr (by decide), nk_ck, nI_clamp (by omega), e1, if_neg (nI_ge (by omega) (by omega)), sr110_31 s, nk_k, sk129 s, nk_dd, sl129 s, i14r, nk_in (show 14 * r + w < 84 by omega) (by decide), nk_ck, gz, nk_ck, nk_ck, nI_clamp (by omega), h2 w (Nat.le_refl w) (by omega), dv, nI_1]
    rw [st]
    have f1 : Fs [129] M (am_wJ M 129 (14 * r + w) (lI (fI a b W n w))) := fs_wJ _ _ _ List.mem_cons_self
    obtain ⟨M', d1, d2, d3, d4⟩ := ih (w + 1) g _ (by omega) (by omega) (fs_shp f1 s) (by rw [fs_I f1 (by decide)]; exact e1) (fun x hx => by
      by_cases e : x = w
      · rw [e, rJ_eq]
      · rw [rJ_ix _ _ _ (by omega)]; exact h1 x (by omega)) (fun x h3 h4 => by rw [rJ_ix _ _ _ (by omega)]; exact h2 x (by omega) h4)
    exact ⟨M', d1, fs_trans f1 d2, d3, fun z hz => by rw [d4 z hz, rJ_ix _ _ _ (by omega)]⟩
/-- an outline opened, the reference -/
def OpM (M M' : am_Mem) (w : Int32) : Prop := Fs [110, 130, 131, 132] M M' ∧ am_I M' 110 35 = w ∧ (∀ y, ¬ y = 35 → am_I M' 110 y = am_I M 110 y) ∧ am_J M' 110 = am_J M 110 ∧ am_I M' 130 0 = 1 ∧ am_I M' 131 0 = 0 ∧ am_I M' 132 0 = 0
theorem op_m {M : am_Mem} (s : Shp M) (w : Int32) : ∃ M', fn12_laysOutline M 110 w = some ((), M') ∧ OpM M M' w := by
  refine ⟨am_wI (am_wI (am_wI (am_wI M 110 35 w) 130 0 1) 131 0 0) 132 0 0, ?_, ⟨fs_trans (fs_trans (fs_trans (fs_wI _ _ _ (by decide)) (fs_wI _ _ _ (by decide))) (fs_wI _ _ _ (by decide))) (fs_wI _ _ _ (by decide)), ?_, fun y hy => ?_, ?_, ?_, ?_, ?_⟩⟩
  · unfold fn12_laysOutline fn12_laysOutline_b0
    have i0 : am_in (0 : Int32) 42 = true := rfl
    have i1 : am_in (0 : Int32) 1764 = true := rfl
    simp only [nk_k, sk110 s, eq_self, decide_true, nk_ck, sr110_32 s, sr110_33 s, sr110_34 s, sk130 s, sk131 s, sk132 s, sl130 s, sl131 s, sl132 s, i0, i1, show (0 : Int32).toNatClampNeg = 0 from rfl]
  · rw [rI_ne _ _ _ (by decide), rI_ne _ _ _ (by decide), rI_ne _ _ _ (by decide), rI_eq]
  · rw [rI_ne _ _ _ (by decide), rI_ne _ _ _ (by decide), rI_ne _ _ _ (by decide), rI_ix _ _ _ hy]
  · rw [qJ_wI, qJ_wI, qJ_wI, qJ_wI]
  · rw [rI_ne _ _ _ (by decide), rI_ne _ _ _ (by decide), rI_eq]
  · rw [rI_ne _ _ _ (by decide), rI_eq]
  · rw [rI_eq]
theorem fv_m (hr : r < 6) (hn : n ≤ 8) (hn0 : 0 < n) (hW : W ≤ 14) (d0 : 0 < fD a b W n) (g0 : ¬ fG a b W n W = 0) : ∀ m p fuel M, p + m = n + 1 → m < fuel → Shp M → am_I M 122 r = nI (n + 1) → am_J M 127 r = lI (fD a b W n) → (∀ q, q < p → am_J M 128 (9 * r + q) = lI (fL a b W n q)) → (∀ q, p ≤ q → q ≤ n → am_J M 128 (9 * r + q) = lI (fV a b W n q)) → ∃ M1 M', fn12_flows_b277 N fuel 110 (nI r) (lN (fG a b W n W)) (nI p) M = some ((), M') ∧ Fs [128] M M1 ∧ OpM M1 M' (iI (fD a b W n / (fG a b W n W : Int))) ∧ (∀ q, q ≤ n → am_J M1 128 (9 * r + q) = lI (fL a b W n q)) ∧ (∀ z, z < 9 * r → am_J M1 128 z = am_J M 128 z) := by
  intro m
  have gl := fg_le (a := a) (b := b) (n := n) hW W
  have gz : decide (¬ lN (fG a b W n W) = 0) = true := decide_eq_true (fun z => g0 (by have := (li_0 (a := (fG a b W n W : Int)) (by omega)).mp z; omega))
  induction m with
  | zero =>
    intro p fuel M hp hf s e2 e7 h1 h2
    obtain ⟨g, rfl⟩ : ∃ g, fuel = g + 1 := ⟨fuel - 1, by omega⟩
    have dl := fd_le (a := a) (b := b) hW n
    have dv : lI (fD a b W n) / lN (fG a b W n W) = lI (fD a b W n / (fG a b W n W : Int)) := li_divd (d := (fG a b W n W : Int)) (by omega) (by omega) (by unfold fD; omega) (fg_d hn0)
    obtain ⟨M', o1, o2⟩ := op_m s (iI (fD a b W n / (fG a b W n W : Int)))
    refine ⟨M, M', ?_, fs_refl _ _, o2, fun q hq => h1 q (by omega), fun _ _ => rfl⟩
    show fn12_flows_b277B N (fn12_flows_b277 N g) 110 (nI r) _ (nI p) M = _
    unfold fn12_flows_b277B
    rw [nk_k, sk110 s, nk_dd, sr110_24 s, nk_k, sk122 s, nk_dd, sl122 s, nk_in hr (by decide), nk_ck, nI_clamp (by omega), e2, if_pos (nI_le (by omega) (by omega)), sr110_29 s, nk_k, sk127 s, nk_dd, sl127 s, nk_in hr (by decide), nk_ck, gz, nk_ck, e7, dv, li_ii, o1, nk_bd]
  | succ m ih =>
    intro p fuel M hp hf s e2 e7 h1 h2
    obtain ⟨g, rfl⟩ : ∃ g, fuel = g + 1 := ⟨fuel - 1, by omega⟩
    have vl := fv_le (a := a) (b := b) (n := n) hW p
    have dv : lI (fV a b W n p) / lN (fG a b W n W) = lI (fL a b W n p) := li_divd (d := (fG a b W n W : Int)) (by omega) (by omega) (by omega) (fg_v d0 p)
    have st : fn12_flows_b277 N (g + 1) 110 (nI r) (lN (fG a b W n W)) (nI p) M = fn12_flows_b277 N g 110 (nI r) (lN (fG a b W n W)) (nI (p + 1)) (am_wJ M 128 (9 * r + p) (lI (fL a b W n p))) := by
      show fn12_flows_b277B N (fn12_flows_b277 N g) 110 (nI r) _ (nI p) M = _
      unfold fn12_flows_b277B
      rw [nk_k, sk110 s, nk_dd, sr110_24 s, nk_k, sk122 s, nk_dd, sl122 s, nk_in hr (by decide), nk_ck, nI_clamp (by omega), e2, if_neg (nI_ge (by omega) (by omega)), sr110_30 s, nk_k, sk128 s, nk_dd, sl128 s, i9r, nk_in (show 9 * r + p < 54 by omega) (by decide), nk_ck, gz, nk_ck, nk_ck, nI_clamp (by omega), h2 p (Nat.le_refl p) (by omega), dv, nI_1]
    rw [st]
    have f1 : Fs [128] M (am_wJ M 128 (9 * r + p) (lI (fL a b W n p))) := fs_wJ _ _ _ List.mem_cons_self
    obtain ⟨M1, M', d1, d2, d3, d4, d5⟩ := ih (p + 1) g _ (by omega) (by omega) (fs_shp f1 s) (by rw [fs_I f1 (by decide)]; exact e2) (by rw [fs_J f1 (by decide)]; exact e7) (fun q hq => by
      by_cases e : q = p
      · rw [e, rJ_eq]
      · rw [rJ_ix _ _ _ (by omega)]; exact h1 q (by omega)) (fun q h3 h4 => by rw [rJ_ix _ _ _ (by omega)]; exact h2 q (by omega) h4)
    exact ⟨M1, M', d1, fs_trans f1 d2, d3, d4, fun z hz => by rw [d5 z hz, rJ_ix _ _ _ (by omega)]⟩
end
