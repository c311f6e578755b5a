/-- what the reference holds of a net that flows -/
def FlM (M : am_Mem) (r : Nat) (a b : Nat → Nat) (W n : Nat) : Prop := (∀ q, q ≤ n → am_J M 128 (9 * r + q) = lI (fL a b W n q)) ∧ ∀ x, x < W → am_J M 129 (14 * r + x) = lI (fI a b W n x)
def fwW : List Nat := [110, 127, 128, 129, 130, 131, 132, 133]
/-- what stays of the nets before -/
def NtB (M M' : am_Mem) (r : Nat) : Prop := (∀ u, ¬ u = r → am_J M' 127 u = am_J M 127 u) ∧ (∀ z, z < 9 * r → am_J M' 128 z = am_J M 128 z) ∧ ∀ z, z < 14 * r → am_J M' 129 z = am_J M 129 z
theorem fw_ok {N r : Nat} {a b : Nat → Nat} {W n : Nat} {M : am_Mem} (hN : 100000 ≤ N) (hr : r < 6) (hn : n ≤ 8) (hn0 : 0 < n) (hW : W ≤ 14) (ha : ∀ w, w < W → a w ≤ n ∧ b w ≤ n ∧ ¬ a w = b w) (s : Shp M) (e2 : am_I M 122 r = nI (n + 1)) (wm : WrM M r a b W) (d0 : 0 ≤ fD a b W n) : ∃ M', fn12_flows N M 110 (nI r) = some ((), M') ∧ Fs fwW M M' ∧ (∀ y, ¬ y = 35 → am_I M' 110 y = am_I M 110 y) ∧ am_J M' 110 = am_J M 110 ∧ am_J M' 127 r = lI (fD a b W n) ∧ NtB M M' r ∧ (0 < fD a b W n → FlM M' r a b W n ∧ am_I M' 110 35 = iI (fD a b W n / (fG a b W n W : Int)) ∧ am_I M' 130 0 = 1 ∧ am_I M' 131 0 = 0 ∧ am_I M' 132 0 = 0) := by
  obtain ⟨M1, a1, a2, a3⟩ := lf_ok (N := N) hN hr hn hW ha s e2 wm
  have s1 := fs_shp a2 s
  obtain ⟨M2, b1, b2⟩ := de_ok (N := N) (n := n) (c := Lap a b W) (ρ := fun i => i) (R := fun x => dgr a b W x * 2) hN hn s1 (fun i hi => lap_row i) (by
    have h1 := dgr_sum (a := a) (b := b) (W := W) (n := n)
    omega) a3
  have s2 := fs_shp b2 s1
  have f12 : Fs [133] M M2 := fs_trans a2 b2
  have f3 : Fs [127] M2 (am_wJ M2 127 r (lI (fD a b W n))) := fs_wJ _ _ _ List.mem_cons_self
  have j3 : am_J (am_wJ M2 127 r (lI (fD a b W n))) 127 r = lI (fD a b W n) := rJ_eq _ _ _ _
  have o3 : ∀ u, ¬ u = r → am_J (am_wJ M2 127 r (lI (fD a b W n))) 127 u = am_J M 127 u := fun u hu => by rw [rJ_ix _ _ _ hu, fs_J f12 (by decide)]
  have st : fn12_flows N M 110 (nI r) = fn12_flows_b19 N N 110 (nI r) (nI 0) (am_wJ M2 127 r (lI (fD a b W n))) := by
    unfold fn12_flows fn12_flows_b0
    have b1' : fn12_determinant N M1 110 (nI n) = some (lI (fD a b W n), M2) := b1
    rw [nk_k, sk110 s, nk_dd, a1, nk_bd, nk_k, sk110 s1, nk_dd, b1', nk_bd, sr110_29 s, nk_k, sk127 s2, nk_dd, sl127 s2, nk_in hr (by decide), nk_ck, nI_clamp (by omega)]
    rfl
  rw [st]
  revert f3 j3 o3
  generalize am_wJ M2 127 r (lI (fD a b W n)) = M3
  intro f3 j3 o3
  have s3 := fs_shp f3 s2
  obtain ⟨M4, c1, c2, c3, c4⟩ := fz_m (N := N) hr 9 0 N M3 (by omega) (by omega) s3 (fun q hq => absurd hq (Nat.not_lt_zero q))
  have s4 := fs_shp c2 s3
  obtain ⟨M5, d1, d2, d3, d4⟩ := fy_m (N := N) hr 14 0 N M4 (by omega) (by omega) s4
  have s5 := fs_shp d2 s4
  have j5 : am_J M5 127 r = lI (fD a b W n) := by rw [fs_J d2 (by decide), fs_J c2 (by decide)]; exact j3
  have f5 : Fs fwW M M5 := fs_trans (fs_mono f12 (by decide)) (fs_trans (fs_mono f3 (by decide)) (fs_trans (fs_mono c2 (by decide)) (fs_mono d2 (by decide))))
  have f5' : Fs [127, 128, 129, 133] M M5 := fs_trans (fs_mono f12 (by decide)) (fs_trans (fs_mono f3 (by decide)) (fs_trans (fs_mono c2 (by decide)) (fs_mono d2 (by decide))))
  have nb5 : NtB M M5 r := by
    refine ⟨fun u hu => ?_, fun z hz => ?_, fun z hz => ?_⟩
    · rw [fs_J d2 (by decide), fs_J c2 (by decide)]; exact o3 u hu
    · rw [fs_J d2 (by decide), c4 z hz, fs_J f3 (by decide), fs_J f12 (by decide)]
    · rw [d4 z (by omega), fs_J c2 (by decide), fs_J f3 (by decide), fs_J f12 (by decide)]
  have hd := fd_le (a := a) (b := b) hW n
  rw [c1, d1, j5]
  by_cases z : fD a b W n = 0
  · rw [if_pos ((lg_cmp_eq _ _).mpr ((li_0 (by unfold fD; omega)).mpr z))]
    exact ⟨M5, rfl, f5, fun y _ => by rw [fs_I f5' (by decide)], fs_J f5' (by decide), j5, nb5, fun y => by omega⟩
  · rw [if_neg (fun e => z ((li_0 (by unfold fD; omega)).mp ((lg_cmp_eq _ _).mp e)))]
    have dp : 0 < fD a b W n := by omega
    have g0 : ¬ fG a b W n W = 0 := by have := fg_pos (a := a) (b := b) (W := W) hn0 dp; omega
    have wm5 : WrM M5 r a b W := ⟨by rw [fs_I f5' (by decide)]; exact wm.1, fun u hu => by rw [fs_I f5' (by decide)]; exact wm.2 u hu⟩
    have e25 : am_I M5 122 r = nI (n + 1) := by rw [fs_I f5' (by decide)]; exact e2
    obtain ⟨M6, g1, g2, g3, g4⟩ := fl_m (N := N) hN hr hn hW ha n 0 N M5 (by omega) (by omega) s5 e25 wm5 (fun q hq => absurd hq (Nat.not_lt_zero q))
    have s6 := fs_shp g2 s5
    have wm6 : WrM M6 r a b W := ⟨by rw [fs_I g2 (by decide)]; exact wm5.1, fun u hu => by rw [fs_I g2 (by decide)]; exact wm5.2 u hu⟩
    have lv6 : ∀ q, q ≤ n → am_J M6 128 (9 * r + q) = lI (fV a b W n q) := by
      intro q hq
      by_cases e : q < n
      · exact g3 q e
      · rw [show q = n by omega, g4 _ (Or.inr (Nat.le_refl _)), fv_ge (Nat.le_refl n), fs_J d2 (by decide)]
        exact c3 n (by omega)
    obtain ⟨M7, h1, h2, h3, h4⟩ := fc_m (N := N) hN hr hn hW ha W 0 N M6 (by omega) (by omega) s6 wm6 lv6 (fun x hx => absurd hx (Nat.not_lt_zero x))
    have s7 := fs_shp h2 s6
    obtain ⟨M8, k1, k2, k3, k4⟩ := fi_m (N := N) (n := n) (a := a) (b := b) hr hW g0 W 0 N M7 (by omega) (by omega) s7 (by rw [fs_I h2 (by decide)]; exact wm6.1) (fun x hx => absurd hx (Nat.not_lt_zero x)) (fun x _ hx => h3 x hx)
    have s8 := fs_shp k2 s7
    have f58 : Fs [128, 129, 133] M5 M8 := fs_trans (fs_mono g2 (by decide)) (fs_trans (fs_mono h2 (by decide)) (fs_mono k2 (by decide)))
    obtain ⟨M9, MA, l1, l2, l3, l4, l5⟩ := fv_m (N := N) hr hn hn0 hW dp g0 (n + 1) 0 N M8 (by omega) (by omega) s8 (by rw [fs_I f58 (by decide)]; exact e25) (by rw [fs_J f58 (by decide)]; exact j5) (fun q hq => absurd hq (Nat.not_lt_zero q)) (fun q _ hq => by rw [fs_J k2 (by decide), fs_J h2 (by decide)]; exact lv6 q hq)
    have h1' : fn12_flows_b141 N N 110 (nI r) (0 : Int64) (nI 0) M6 = _ := h1
    rw [g1, h1', k1, l1]
    have f59 : Fs [128, 129, 133] M5 M9 := fs_trans f58 (fs_mono l2 (by decide))
    obtain ⟨q1, q2, q3, q4, q5, q6, q7⟩ := l3
    refine ⟨MA, rfl, fs_trans f5 (fs_trans (fs_mono f59 (by decide)) (fs_mono q1 (by decide))), fun y hy => ?_, ?_, ?_, ⟨fun u hu => ?_, fun z hz => ?_, fun z hz => ?_⟩, fun _ => ⟨⟨fun q hq => ?_, fun x hx => ?_⟩, q2, q5, q6, q7⟩⟩
    · rw [q3 y hy, fs_I f59 (by decide), fs_I f5' (by decide)]
    · rw [q4, fs_J f59 (by decide), fs_J f5' (by decide)]
    · rw [fs_J q1 (by decide), fs_J f59 (by decide)]; exact j5
    · rw [fs_J q1 (by decide), fs_J f59 (by decide)]; exact nb5.1 u hu
    · rw [fs_J q1 (by decide), l5 z hz, fs_J k2 (by decide), fs_J h2 (by decide), g4 z (Or.inl hz)]; exact nb5.2.1 z hz
    · rw [fs_J q1 (by decide), fs_J l2 (by decide), k4 z hz, h4 z hz, fs_J g2 (by decide)]; exact nb5.2.2 z hz
    · rw [fs_J q1 (by decide)]; exact l4 q hq
    · rw [fs_J q1 (by decide), fs_J l2 (by decide)]; exact k3 x hx
