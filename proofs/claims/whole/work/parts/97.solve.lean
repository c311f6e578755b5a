theorem fr_fs {W Q : List Nat} {M M1 M2 : am_Mem} (h : am_Fr W M M1) (g : Fs Q M1 M2) (hQ : ∀ a ∈ Q, a ∈ W ∨ am_n M < a) : am_Fr W M M2 := by
  refine ⟨by rw [g.1]; exact h.1, fun a ha => ?_⟩
  obtain ⟨h1, h2, h3, h4⟩ := h.2 a ha
  refine ⟨by rw [g.2.1]; exact h1, by rw [g.2.2.1]; exact h2, by rw [g.2.2.2.1]; exact h3, fun hw => ?_⟩
  have hn : a ∉ Q := fun h' => by
    rcases hQ a h' with q | q
    · exact hw q
    · omega
  exact ⟨(g.2.2.2.2 a hn).1.trans (h4 hw).1, (g.2.2.2.2 a hn).2.trans (h4 hw).2⟩
theorem nwA_In {M : am_Mem} {r j n : Nat} : am_I (nwA M r j n) (am_n M + 1) = fun _ => 0 := by
  unfold nwA
  rw [qI_wR, rI_new_eq]
/-- a new net -/
theorem ne_c {M : am_Mem} {n W : Nat} (hn : n ≤ 8) (hW : W ≤ 14) (h141 : 141 ≤ am_n M) : ∃ M', fn3_init (am_new M 3 0) (am_n M + 1) (nI (n + 1)) (nI W) = some ((), M') ∧ am_Fr [] M M' ∧ am_n M' = am_n M + 3 ∧ NtT M' (am_n M + 1) n W ∧ am_I M' (am_n M + 1) 0 = nI (n + 1) ∧ am_I M' (am_n M + 1) 1 = nI W ∧ am_I M' (am_n M + 1) 7 = 0 ∧ am_I M' (am_n M + 2) n = 0 := by
  have fr : am_Fr [] M (am_wI (am_wI (am_new M 3 0) (am_n M + 1) 0 (nI (n + 1))) (am_n M + 1) 1 (nI W)) := by
    have h0 := fr_new [] M 3 0
    have f1 : Fs [am_n M + 1] (am_new M 3 0) (am_wI (am_wI (am_new M 3 0) (am_n M + 1) 0 (nI (n + 1))) (am_n M + 1) 1 (nI W)) := fs_trans (fs_wI _ _ _ List.mem_cons_self) (fs_wI _ _ _ List.mem_cons_self)
    exact fr_fs h0 f1 (fun a ha => Or.inr (by rw [List.mem_singleton.mp ha]; omega))
  have k0 : am_K (am_new M 3 0) (am_n M + 1) = 3 := rK_new_eq M 3 0
  have k1 : am_K (am_wI (am_wI (am_new M 3 0) (am_n M + 1) 0 (nI (n + 1))) (am_n M + 1) 1 (nI W)) (am_n M + 1) = 3 := by rw [qK_wI, qK_wI]; exact k0
  have n1 : am_n (am_wI (am_wI (am_new M 3 0) (am_n M + 1) 0 (nI (n + 1))) (am_n M + 1) 1 (nI W)) = am_n M + 1 := rfl
  have i0 : am_I (am_wI (am_wI (am_new M 3 0) (am_n M + 1) 0 (nI (n + 1))) (am_n M + 1) 1 (nI W)) (am_n M + 1) 0 = nI (n + 1) := by rw [rI_ix _ _ _ (by decide), rI_eq]
  have i1 : am_I (am_wI (am_wI (am_new M 3 0) (am_n M + 1) 0 (nI (n + 1))) (am_n M + 1) 1 (nI W)) (am_n M + 1) 1 = nI W := rI_eq _ _ _ _
  have i7 : am_I (am_wI (am_wI (am_new M 3 0) (am_n M + 1) 0 (nI (n + 1))) (am_n M + 1) 1 (nI W)) (am_n M + 1) 7 = 0 := by rw [rI_ix _ _ _ (by decide), rI_ix _ _ _ (by decide), rI_new_eq]
  have st : fn3_init (am_new M 3 0) (am_n M + 1) (nI (n + 1)) (nI W) = fn3_init_b14 (am_n M + 1) (nI (n + 1)) (nI W) (am_wI (am_wI (am_new M 3 0) (am_n M + 1) 0 (nI (n + 1))) (am_n M + 1) 1 (nI W)) := by
    unfold fn3_init fn3_init_b0 fn3_init_b9
    rw [nk_k, k0, nk_dd, nk_k, qK_wI, k0, nk_dd]
  rw [st]
  revert fr k1 n1 i0 i1 i7
  generalize am_wI (am_wI (am_new M 3 0) (am_n M + 1) 0 (nI (n + 1))) (am_n M + 1) 1 (nI W) = M1
  intro fr k1 n1 i0 i1 i7
  have kk1 : am_K (am_new M1 14 (n + 1)) (am_n M + 1) = 3 := by rw [rK_new _ _ _ (by omega)]; exact k1
  unfold fn3_init_b14
  rw [nk_cnt (show n + 1 ≤ 14 by omega) (by decide), nk_ck, nI_clamp (by omega), nk_k, kk1, nk_dd]
  rw [show am_wR (am_new M1 14 (n + 1)) (am_n M + 1) 2 (am_n M1 + 1) = nwA M1 (am_n M + 1) 2 (n + 1) from rfl]
  have f2 := nwA_fr (j := 2) (n := n + 1) fr (show am_n M < am_n M + 1 by omega)
  have n2 : am_n (nwA M1 (am_n M + 1) 2 (n + 1)) = am_n M + 2 := by rw [nwA_n, n1]
  have k2 : am_K (nwA M1 (am_n M + 1) 2 (n + 1)) (am_n M + 1) = 3 := by rw [nwA_K (by omega)]; exact k1
  have I2 : am_I (nwA M1 (am_n M + 1) 2 (n + 1)) (am_n M + 1) = am_I M1 (am_n M + 1) := nwA_I (by omega)
  have r2 : am_R (nwA M1 (am_n M + 1) 2 (n + 1)) (am_n M + 1) 2 = am_n M + 2 := by rw [nwA_R, n1]
  have a2 : am_K (nwA M1 (am_n M + 1) 2 (n + 1)) (am_n M + 2) = 14 := by have := nwA_Kn (M := M1) (r := am_n M + 1) (j := 2) (n := n + 1); rw [n1] at this; exact this
  have b2 : am_L (nwA M1 (am_n M + 1) 2 (n + 1)) (am_n M + 2) = n + 1 := by have := nwA_Ln (M := M1) (r := am_n M + 1) (j := 2) (n := n + 1); rw [n1] at this; exact this
  have z2 : am_I (nwA M1 (am_n M + 1) 2 (n + 1)) (am_n M + 2) = fun _ => 0 := by have := nwA_In (M := M1) (r := am_n M + 1) (j := 2) (n := n + 1); rw [n1] at this; exact this
  revert f2 n2 k2 I2 r2 a2 b2 z2
  generalize nwA M1 (am_n M + 1) 2 (n + 1) = M2
  intro f2 n2 k2 I2 r2 a2 b2 z2
  have kk2 : am_K (am_new M2 14 W) (am_n M + 1) = 3 := by rw [rK_new _ _ _ (by omega)]; exact k2
  unfold fn3_init_b21 fn3_init_b28
  rw [nk_cnt (show W ≤ 14 by omega) (by decide), nk_ck, nI_clamp (by omega), nk_k, kk2, nk_dd]
  rw [show am_wR (am_new M2 14 W) (am_n M + 1) 3 (am_n M2 + 1) = nwA M2 (am_n M + 1) 3 W from rfl]
  refine ⟨_, rfl, nwA_fr f2 (by omega), by rw [nwA_n, n2], ⟨by omega, by rw [nwA_n, n2]; omega, by rw [nwA_K (by omega)]; exact k2, by rw [nwA_K (by omega)]; exact a2, by rw [nwA_L (by omega)]; exact b2, ?_, ?_, ?_, ?_⟩, ?_, ?_, ?_, ?_⟩
  · have := nwA_Kn (M := M2) (r := am_n M + 1) (j := 3) (n := W); rw [n2] at this; exact this
  · have := nwA_Ln (M := M2) (r := am_n M + 1) (j := 3) (n := W); rw [n2] at this; exact this
  · rw [nwA_Ri (by omega) (by decide)]; exact r2
  · rw [nwA_R, n2]
  · rw [nwA_I (by omega), I2]; exact i0
  · rw [nwA_I (by omega), I2]; exact i1
  · rw [nwA_I (by omega), I2]; exact i7
  · rw [nwA_I (by omega), z2]
theorem i12 (w : Nat) : (1 : Int32) + 2 * nI w = nI (1 + 2 * w) := by
  rw [show (2 : Int32) * nI w = nI (2 * w) from (Int32.ofNat_mul 2 _).symm]
  exact lw_add 1 (2 * w)
theorem i22 (w : Nat) : (2 : Int32) + 2 * nI w = nI (2 + 2 * w) := by
  rw [show (2 : Int32) * nI w = nI (2 * w) from (Int32.ofNat_mul 2 _).symm]
  exact lw_add 2 (2 * w)
section
variable {a b : Nat → Nat} {W n : Nat}
theorem sv_w {N i : Nat} {x3 : Int32} (hi : i < 6) (hW : W ≤ 14) : ∀ m w fuel M, w + m = W → m < fuel → Shp M → (∀ x, x < W → am_I M (8 + i) (1 + 2 * x) = nI (a x) ∧ am_I M (8 + i) (2 + 2 * x) = nI (b x)) → (∀ x, x < w → am_I M 36 x = nI (a x) ∧ am_I M 37 x = nI (b x)) → ∃ M' f', fn5_solve_b32 N fuel 25 (8 + i) x3 (nI W) (nI w) M = fn5_solve_b32 N (f' + 1) 25 (8 + i) x3 (nI W) (nI W) M' ∧ Fs [36, 37] M M' ∧ WrC M' a b W := by
  intro m
  induction m with
  | zero =>
    intro w fuel M hw hf s h1 h2
    obtain ⟨g, rfl⟩ : ∃ g, fuel = g + 1 := ⟨fuel - 1, by omega⟩
    have e : w = W := by omega
    subst e
    exact ⟨M, g, rfl, fs_refl _ _, h2⟩
  | succ m ih =>
    intro w fuel M hw hf s h1 h2
    obtain ⟨g, rfl⟩ : ∃ g, fuel = g + 1 := ⟨fuel - 1, by omega⟩
    obtain ⟨_, k8, l8, _, _, _⟩ := s8t s hi
    obtain ⟨wa, wb⟩ := h1 w (by omega)
    have c1 : (nI w).toNatClampNeg = w := nI_clamp (by omega)
    have c2 : (nI (1 + 2 * w)).toNatClampNeg = 1 + 2 * w := nI_clamp (by omega)
    have c3 : (nI (2 + 2 * w)).toNatClampNeg = 2 + 2 * w := nI_clamp (by omega)
    have i1 : am_in (nI w) 14 = true := nk_in (by omega) (by decide)
    have i2 : am_in (nI (1 + 2 * w)) 29 = true := nk_in (by omega) (by decide)
    have i3 : am_in (nI (2 + 2 * w)) 29 = true := nk_in (by omega) (by decide)
    have n1 : ¬ 8 + i = 36 := by omega
    have st : fn5_solve_b32 N (g + 1) 25 (8 + i) x3 (nI W) (nI w) M = fn5_solve_b32 N g 25 (8 + i) x3 (nI W) (nI (w + 1)) (am_wI (am_wI M 36 w (nI (a w))) 37 w (nI (b w))) := by
      show fn5_solve_b32B N (fn5_solve_b32 N g) 25 (8 + i) x3 (nI W) (nI w) M = _
      unfold fn5_solve_b32B
      rw [if_neg (nI_ge (by omega) (by omega))]
      simp only [nk_k, sk25 s, eq_self, decide_true, nk_ck, k8, l8, i12, i22, i1, i2, i3, sr25_1 s, sr25_2 s, sk36 s, sl36 s, sk37 s, sl37 s, c1, c2, c3, wa, rI_ne _ _ _ n1, wb, nI_1]
    rw [st]
    have f1 : Fs [36, 37] M (am_wI (am_wI M 36 w (nI (a w))) 37 w (nI (b w))) := fs_trans (fs_wI _ _ _ (by decide)) (fs_wI _ _ _ (by decide))
    obtain ⟨M', f', a1, a2, a3⟩ := ih (w + 1) g _ (by omega) (by omega) (fs_shp f1 s) (fun x hx => by rw [rI_ne _ _ _ (by omega), rI_ne _ _ _ (by omega)]; exact h1 x hx) (fun x hx => by
      rw [rI_ne (b := 36) _ _ _ (by decide)]
      by_cases q : x = w
      · rw [q, rI_eq, rI_eq]; exact ⟨rfl, rfl⟩
      · rw [rI_ix _ _ _ q, rI_ix _ _ _ q, rI_ne _ _ _ (by decide)]; exact h2 x (by omega))
    exact ⟨M', f', a1, fs_trans f1 a2, a3⟩
/-- what the class's net holds when it flows -/
def FlC (M : am_Mem) (u : Nat) (a b : Nat → Nat) (W n : Nat) : Prop := (∀ p, p ≤ n → am_I M (u + 1) p = iI (fL a b W n p)) ∧ (∀ x, x < W → am_I M (u + 2) x = iI (fI a b W n x)) ∧ am_I M u 5 = iI (fD a b W n / (fG a b W n W : Int)) ∧ am_I M u 6 = iI (fL a b W n 0)
def soW : List Nat := [27, 28, 29, 30, 31, 32, 33, 34, 35, 36, 37, 38]
theorem so_c {N i : Nat} {M : am_Mem} (hN : 100000 ≤ N) (hi : i < 6) (hn : n ≤ 8) (hn0 : 0 < n) (hW : W ≤ 14) (ha : ∀ w, w < W → a w ≤ n ∧ b w ≤ n ∧ ¬ a w = b w) (s : Shp M) (h0 : am_I M (8 + i) 0 = nI (n + 1)) (h1 : ∀ x, x < W → am_I M (8 + i) (1 + 2 * x) = nI (a x) ∧ am_I M (8 + i) (2 + 2 * x) = nI (b x)) : ∃ M', fn5_solve N M 25 (8 + i) (nI (1 + 2 * W)) = some (am_n M + 1, M') ∧ am_Fr soW M M' ∧ am_n M' = am_n M + 3 ∧ NtT M' (am_n M + 1) n W ∧ am_I M' (am_n M + 1) 0 = nI (n + 1) ∧ am_I M' (am_n M + 1) 1 = nI W ∧ am_I M' (am_n M + 1) 7 = 0 ∧ am_J M' (am_n M + 1) 4 = lI (fD a b W n) ∧ 0 ≤ fD a b W n ∧ (0 < fD a b W n → FlC M' (am_n M + 1) a b W n ∧ ∀ x, x < W → am_I M' 38 x = iI (fS a b W n x)) := by
  obtain ⟨_, k8, l8, _, _, _⟩ := s8t s hi
  have s141 := s.1
  obtain ⟨M1, f', a1, a2, a3⟩ := sv_w (N := N) (x3 := nI (n + 1)) hi hW W 0 N M (by omega) (by omega) s h1 (fun x hx => absurd hx (Nat.not_lt_zero x))
  have s1 := fs_shp a2 s
  have e1 : am_n M1 = am_n M := a2.1
  obtain ⟨M2, b1, b2, b3, b4, b5, b6, b7, b8⟩ := ne_c (M := M1) hn hW (by omega)
  rw [e1] at b1 b3 b4 b5 b6 b7 b8
  have s2 := shp_fr s1 b2
  have wc2 : WrC M2 a b W := fun x hx => by
    rw [fr_I b2 (by omega) List.not_mem_nil, fr_I b2 (by omega) List.not_mem_nil]; exact a3 x hx
  obtain ⟨M3, c1, c2, c3⟩ := fm_c (N := N) hN hn hW ha s2 wc2
  have s3 := fs_shp c2 s2
  obtain ⟨M4, d1, d2, d3, d4⟩ := el_c (a := a) (b := b) (W := W) (N := N) hN hn (lap_small hW) n 0 N M3 (by omega) (by omega) s3 c3 (show (0 : Int) < 1 by decide) (show (1 : Int).natAbs < 2147483648 by decide)
  have s4 := fs_shp d2 s3
  have f24 : Fs mtW M2 M4 := fs_trans c2 d2
  have t4 : NtT M4 (am_n M + 1) n W := ntt_fs f24 b4
  have k4 : am_K M4 (am_n M + 1) = 3 := t4.2.2.1
  have nm : ∀ y, 38 < y → y ∉ mtW := fun y hy hm => by
    have : ∀ z ∈ mtW, z ≤ 38 := by decide
    have := this y hm
    omega
  have fr4 : am_Fr soW M M4 := by
    have g1 : am_Fr soW M M1 := fs_fr (fs_mono a2 (by decide))
    have g2 : am_Fr soW M M2 := fr_trans g1 (fr_mono b2 (fun a ha => absurd ha List.not_mem_nil))
    exact fr_fs g2 f24 (fun a ha => Or.inl ((show ∀ z ∈ mtW, z ∈ soW by decide) a ha))
  have n4 : am_n M4 = am_n M + 3 := by rw [f24.1, b3]
  have hd : (fD a b W n).natAbs ≤ 1000000000 := fd_le hW n
  have st : fn5_solve N M 25 (8 + i) (nI (1 + 2 * W)) = fn5_solve_b106 N 25 (am_n M + 1) (am_wJ M4 (am_n M + 1) 4 (lI (fD a b W n))) := by
    unfold fn5_solve fn5_solve_b0
    have p1 : (if (2 : Int32) < (if (9 : Int32) < nI (n + 1) then (9 : Int32) else nI (n + 1)) then (if (9 : Int32) < nI (n + 1) then (9 : Int32) else nI (n + 1)) else (2 : Int32)) = nI (n + 1) := by
      rw [if_neg (show ¬ (9 : Int32) < nI (n + 1) from Int32.not_lt.mpr (show nI (n + 1) ≤ nI 9 from nI_le (by omega) (by decide)))]
      by_cases q : 2 < n + 1
      · rw [if_pos (show (2 : Int32) < nI (n + 1) from nI_lt (a := 2) q (by omega))]
      · rw [if_neg (show ¬ (2 : Int32) < nI (n + 1) from Int32.not_lt.mpr (show nI (n + 1) ≤ nI 2 from nI_le (by omega) (by decide))), show n + 1 = 2 by omega]
        rfl
    have p2 : (nI (1 + 2 * W) - 1) / 2 = nI W := by
      rw [Nat.add_comm 1 (2 * W), nI_s1]
      have := ii_div (d := 2) (z := ((2 * W : Nat) : Int)) (by decide) (by decide) (by omega) ⟨(W : Int), by omega⟩
      rw [show ((2 * W : Nat) : Int) / 2 = (W : Int) by omega] at this
      exact this
    have p3 : (if (0 : Int32) < (if (14 : Int32) < nI W then (14 : Int32) else nI W) then (if (14 : Int32) < nI W then (14 : Int32) else nI W) else (0 : Int32)) = nI W := by
      rw [if_neg (show ¬ (14 : Int32) < nI W from Int32.not_lt.mpr (show nI W ≤ nI 14 from nI_le (by omega) (by decide)))]
      by_cases q : 0 < W
      · rw [if_pos (show (0 : Int32) < nI W from nI_lt (a := 0) q (by omega))]
      · rw [if_neg (show ¬ (0 : Int32) < nI W from Int32.not_lt.mpr (show nI W ≤ nI 0 from nI_le (by omega) (by decide))), show W = 0 by omega]
        rfl
    rw [nk_k, k8, nk_dd, l8, show am_in (0 : Int32) 29 = true from rfl, nk_ck, show (0 : Int32).toNatClampNeg = 0 from rfl, h0, p1, p2, p3]
    have a1' : fn5_solve_b32 N N 25 (8 + i) (nI (n + 1)) (nI W) (0 : Int32) M = _ := a1
    rw [a1']
    show fn5_solve_b32B N (fn5_solve_b32 N f') 25 (8 + i) (nI (n + 1)) (nI W) (nI W) M1 = _
    unfold fn5_solve_b32B
    have d1' : fn5_eliminate N M3 25 (nI n) = some (lI (fD a b W n), M4) := d1
    rw [if_pos (nI_le (Nat.le_refl W) (by omega)), nk_k, rK_new_eq, nk_dd, e1, b1, nk_bd, nk_k, sk25 s2, nk_dd, c1, nk_bd, nk_k, sk25 s3, nk_dd, nI_s1, d1', nk_bd, nk_k, k4, nk_dd]
  rw [st]
  have f5 : Fs [am_n M + 1] M4 (am_wJ M4 (am_n M + 1) 4 (lI (fD a b W n))) := fs_wJ _ _ _ List.mem_cons_self
  have j5 : am_J (am_wJ M4 (am_n M + 1) 4 (lI (fD a b W n))) (am_n M + 1) 4 = lI (fD a b W n) := rJ_eq _ _ _ _
  have o5 : am_I (am_wJ M4 (am_n M + 1) 4 (lI (fD a b W n))) = am_I M4 := qI_wJ _ _ _ _
  have q5 : ∀ p, p < n → am_J (am_wJ M4 (am_n M + 1) 4 (lI (fD a b W n))) (27 + p) n = am_J M4 (27 + p) n := fun p hp => by rw [rJ_ne _ _ _ (by omega)]
  revert f5 j5 o5 q5
  generalize am_wJ M4 (am_n M + 1) 4 (lI (fD a b W n)) = M5
  intro f5 j5 o5 q5
  have s5 := fs_shp f5 s4
  have t5 := ntt_fs f5 t4
  have i50 : am_I M5 (am_n M + 1) 0 = nI (n + 1) := by rw [o5, fs_I f24 (nm _ (by omega))]; exact b5
  have i51 : am_I M5 (am_n M + 1) 1 = nI W := by rw [o5, fs_I f24 (nm _ (by omega))]; exact b6
  have i57 : am_I M5 (am_n M + 1) 7 = 0 := by rw [o5, fs_I f24 (nm _ (by omega))]; exact b7
  have wc5 : WrC M5 a b W := fun x hx => by
    rw [o5, fs_I f24 (by decide), fs_I f24 (by decide)]; exact wc2 x hx
  have fr5 : am_Fr soW M M5 := fr_fs fr4 f5 (fun a ha => Or.inr (by rw [List.mem_singleton.mp ha]; omega))
  have n5 : am_n M5 = am_n M + 3 := by rw [f5.1, n4]
  unfold fn5_solve_b106 fn5_solve_b122
  rw [nk_k, t5.2.2.1, nk_dd, j5]
  by_cases z : fD a b W n = 0
  · rw [if_pos (show lg_cmp (lI (fD a b W n)) 0 ≤ 0 by rw [z]; decide)]
    exact ⟨M5, rfl, fr5, n5, t5, i50, i51, i57, j5, d3, fun y => by omega⟩
  · have d0 : 0 < fD a b W n := by unfold fD at z ⊢; omega
    have ng : ¬ lg_cmp (lI (fD a b W n)) 0 ≤ 0 := by
      rw [lg_cmp_le]
      intro h
      rw [Int64.le_iff_toInt_le, li_toInt (by omega)] at h
      have : (0 : Int64).toInt = 0 := rfl
      omega
    have g0 : ¬ fG a b W n W = 0 := by have := fg_pos (a := a) (b := b) (W := W) hn0 d0; omega
    rw [if_neg ng, nk_k, sk25 s5, nk_dd]
    obtain ⟨M6, e61, e62, e63, e64⟩ := sf_a (u := am_n M + 1) (W := W) (N := N) hn (V := fun p => fV a b W n p) n 0 N M5 (by omega) (by omega) s5 t5 (fun p hp => by
      rw [q5 p hp, d4 (by unfold fD at z; exact z) p hp n (Nat.le_refl n), gj_fv hn0 z hp]) (fun p hp => absurd hp (Nat.not_lt_zero p))
    have s6 := fs_shp e62 s5
    have t6 := ntt_fs e62 t5
    have lv6 : ∀ p, p ≤ n → am_I M6 (am_n M + 1 + 1) p = iI (fV a b W n p) := by
      intro p hp
      by_cases q : p < n
      · exact e63 p q
      · rw [show p = n by omega, e64, fv_ge (Nat.le_refl n), o5, fs_I f24 (nm _ (by omega))]
        exact b8
    obtain ⟨M7, e71, e72, e73⟩ := sf_b (u := am_n M + 1) (N := N) hN hn hW ha g0 W 0 N M6 (by omega) (by omega) s6 t6 (by rw [fs_I e62 (by rw [List.mem_singleton]; omega)]; exact i51) (fun x hx => by rw [fs_I e62 (by rw [List.mem_singleton]; omega), fs_I e62 (by rw [List.mem_singleton]; omega)]; exact wc5 x hx) lv6 (fun x hx => absurd hx (Nat.not_lt_zero x))
    have s7 := fs_shp e72 s6
    have t7 := ntt_fs e72 t6
    obtain ⟨M8, e81, e82, e83⟩ := sf_c (u := am_n M + 1) (N := N) hn hW d0 g0 (n + 1) 0 N M7 (by omega) (by omega) s7 t7 (by rw [fs_I e72 (by rw [List.mem_singleton]; omega), fs_I e62 (by rw [List.mem_singleton]; omega)]; exact i50) (fun p hp => absurd hp (Nat.not_lt_zero p)) (fun p _ hp => by rw [fs_I e72 (by rw [List.mem_singleton]; omega)]; exact lv6 p hp)
    have s8 := fs_shp e82 s7
    have t8 := ntt_fs e82 t7
    have keep : ∀ y, ¬ y = am_n M + 1 + 1 → ¬ y = am_n M + 1 + 2 → am_I M8 y = am_I M5 y ∧ am_J M8 y = am_J M5 y := by
      intro y y1 y2
      rw [fs_I e82 (by rw [List.mem_singleton]; omega), fs_I e72 (by rw [List.mem_singleton]; omega), fs_I e62 (by rw [List.mem_singleton]; omega), fs_J e82 (by rw [List.mem_singleton]; omega), fs_J e72 (by rw [List.mem_singleton]; omega), fs_J e62 (by rw [List.mem_singleton]; omega)]
      exact ⟨rfl, rfl⟩
    have k8u := keep (am_n M + 1) (by omega) (by omega)
    obtain ⟨M9, e91, e92, e93, e94, e95, e96, e97⟩ := sf_d (u := am_n M + 1) (N := N) hN hn hn0 hW ha d0 g0 W 0 N M8 (by omega) (by omega) s8 t8 (by rw [k8u.1]; exact i51) (by rw [k8u.2]; exact j5) (fun x hx => by rw [(keep 36 (by omega) (by omega)).1, (keep 37 (by omega) (by omega)).1]; exact wc5 x hx) e83 (fun x hx => absurd hx (Nat.not_lt_zero x)) (fun x _ hx => by rw [fs_I e82 (by rw [List.mem_singleton]; omega)]; exact e73 x hx)
    have flow : fn5_setFlow N M5 25 (am_n M + 1) = some ((), M9) := by
      unfold fn5_setFlow fn5_setFlow_b0 fn5_setFlow_b7
      have e61' : fn5_setFlow_b9 N N 25 (am_n M + 1) (nI n) (0 : Int32) M5 = _ := e61
      have e71' : fn5_setFlow_b40 N N 25 (am_n M + 1) (0 : Int32) (0 : Int32) M6 = _ := e71
      have e81' : fn5_setFlow_b110 N N 25 (am_n M + 1) (nI (fG a b W n W)) (0 : Int32) M7 = _ := e81
      rw [nk_k, t5.2.2.1, nk_dd, i50, nI_s1, e61', e71', e81']
      exact e91
    rw [flow, nk_bd]
    have fs59 : Fs [38, am_n M + 1, am_n M + 2, am_n M + 3] M5 M9 := fs_trans (fs_mono e62 (by simp)) (fs_trans (fs_mono e72 (by simp)) (fs_trans (fs_mono e82 (by simp)) (fs_mono e92 (by simp))))
    refine ⟨M9, rfl, fr_fs fr5 fs59 (fun y hy => ?_), by rw [fs59.1, n5], ntt_fs e92 t8, ?_, ?_, ?_, ?_, d3, fun _ => ⟨⟨fun p hp => ?_, fun x hx => (e93 x hx).1, e96, e97⟩, fun x hx => (e93 x hx).2⟩⟩
    · simp only [List.mem_cons, List.not_mem_nil, or_false] at hy
      rcases hy with hy | hy | hy | hy
      · rw [hy]; exact Or.inl (by decide)
      · exact Or.inr (by omega)
      · exact Or.inr (by omega)
      · exact Or.inr (by omega)
    · rw [e94 0 (by decide) (by decide), k8u.1]; exact i50
    · rw [e94 1 (by decide) (by decide), k8u.1]; exact i51
    · rw [e94 7 (by decide) (by decide), k8u.1]; exact i57
    · rw [e95, k8u.2]; exact j5
    · rw [fs_I e92 (by simp; omega)]; exact e83 p hp
end
