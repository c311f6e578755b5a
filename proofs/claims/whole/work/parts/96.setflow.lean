/-- whole numbers as ints -/
def iI (z : Int) : Int32 := Int32.ofInt z
theorem ii_nat (n : Nat) : nI n = iI (n : Int) := rfl
theorem ii_toInt {z : Int} (h : z.natAbs < 2147483648) : (iI z).toInt = z := Int32.toInt_ofInt_of_le (by omega) (by omega)
theorem ii_nn {z : Int} (h : 0 ≤ z) : iI z = nI z.toNat := by
  rw [ii_nat, show ((z.toNat : Nat) : Int) = z from Int.toNat_of_nonneg h]
theorem ii_lt {x y : Int} (hx : x.natAbs < 2147483648) (hy : y.natAbs < 2147483648) : (iI x < iI y) ↔ x < y := by
  rw [Int32.lt_iff_toInt_lt, ii_toInt hx, ii_toInt hy]
theorem ii_abs {z : Int} (h : z.natAbs < 2147483648) : (if 0 ≤ iI z then iI z else 0 - iI z) = nI z.natAbs := by
  by_cases c : 0 ≤ z
  · have q : (0 : Int32) ≤ iI z := by
      rw [Int32.le_iff_toInt_le, ii_toInt h]
      exact c
    rw [if_pos q, ii_nat, show ((z.natAbs : Nat) : Int) = z by omega]
  · have q : ¬ (0 : Int32) ≤ iI z := by
      rw [Int32.le_iff_toInt_le, ii_toInt h]
      exact c
    rw [if_neg q, ii_nat, show ((z.natAbs : Nat) : Int) = 0 - z by omega]
    exact (Int32.ofInt_sub 0 z).symm
theorem ii_div {d z : Int} (hd : ¬ d = 0) (h1 : d.natAbs < 2147483648) (h2 : z.natAbs < 2147483648) (dv : d ∣ z) : iI z / iI d = iI (z / d) := by
  obtain ⟨q, rfl⟩ := dv
  apply Int32.toInt_inj.mp
  have ne : ¬ iI (d * q) = Int32.minValue := by
    intro e
    have := congrArg Int32.toInt e
    rw [ii_toInt h2, show Int32.minValue.toInt = -2147483648 from rfl] at this
    omega
  rw [Int.mul_ediv_cancel_left _ hd, Int32.toInt_div_of_ne_left _ _ ne, ii_toInt h2, ii_toInt h1, Int.mul_tdiv_cancel_left _ hd, ii_toInt]
  rw [Int.natAbs_mul] at h2
  have : 1 ≤ d.natAbs := by omega
  have := Nat.mul_le_mul_right q.natAbs this
  omega
theorem li_divd {d z : Int} (hd : ¬ d = 0) (h1 : d.natAbs < 2147483648) (h2 : z.natAbs < 2147483648) (dv : d ∣ z) : lI z / lI d = lI (z / d) := by
  obtain ⟨q, rfl⟩ := dv
  rw [Int.mul_ediv_cancel_left _ hd, li_div hd (by omega) (by omega)]
theorem li_ii {z : Int} : (lI z).toInt32 = iI z := Int64.toInt32_ofInt
theorem ii_li {z : Int} (h : z.natAbs < 2147483648) : (iI z).toInt64 = lI z := Int32.toInt64_ofInt (show (-2147483648 : Int) ≤ z by omega) (show z ≤ (2147483647 : Int) by omega)
theorem abs_div {d z : Int} (hd : ¬ d = 0) (dv : d ∣ z) : (z / d).natAbs ≤ z.natAbs := by
  obtain ⟨q, rfl⟩ := dv
  rw [Int.mul_ediv_cancel_left _ hd, Int.natAbs_mul]
  have : 1 ≤ d.natAbs := by omega
  have := Nat.mul_le_mul_right q.natAbs this
  omega
/-- levels and currents, divided; where a wire begins -/
def fL (a b : Nat → Nat) (W n p : Nat) : Int := fV a b W n p / (fG a b W n W : Int)
def fI (a b : Nat → Nat) (W n w : Nat) : Int := fC a b W n w / (fG a b W n W : Int)
def fS (a b : Nat → Nat) (W n w : Nat) : Int := if fL a b W n (a w) < fL a b W n (b w) then fL a b W n (b w) else fL a b W n (a w)
/-- a net's thing and its rows -/
def NtT (M : am_Mem) (u n W : Nat) : Prop := 141 < u ∧ u + 2 ≤ am_n M ∧ am_K M u = 3 ∧ am_K M (u + 1) = 14 ∧ am_L M (u + 1) = n + 1 ∧ am_K M (u + 2) = 14 ∧ am_L M (u + 2) = W ∧ am_R M u 2 = u + 1 ∧ am_R M u 3 = u + 2
theorem ntt_fs {Q : List Nat} {M M' : am_Mem} {u n W : Nat} (f : Fs Q M M') (h : NtT M u n W) : NtT M' u n W := by
  unfold NtT at h ⊢
  rw [f.1, f.2.1, f.2.2.1, f.2.2.2.1]
  exact h
section
variable {a b : Nat → Nat} {W n u : Nat}
theorem sf_a {N : Nat} (hn : n ≤ 8) {V : Nat → Int} : ∀ m i fuel M, i + m = n → m < fuel → Shp M → NtT M u n W → (∀ p, p < n → am_J M (27 + p) n = lI (V p)) → (∀ p, p < i → am_I M (u + 1) p = iI (V p)) → ∃ M', fn5_setFlow_b9 N fuel 25 u (nI n) (nI i) M = fn5_setFlow_b40 N N 25 u 0 0 M' ∧ Fs [u + 1] M M' ∧ (∀ p, p < n → am_I M' (u + 1) p = iI (V p)) ∧ am_I M' (u + 1) n = am_I M (u + 1) n := by
  intro m
  induction m with
  | zero =>
    intro i fuel M hi hf s t h1 h2
    obtain ⟨g, rfl⟩ : ∃ g, fuel = g + 1 := ⟨fuel - 1, by omega⟩
    refine ⟨M, ?_, fs_refl _ _, fun p hp => h2 p (by omega), rfl⟩
    show fn5_setFlow_b9B N (fn5_setFlow_b9 N g) 25 u (nI n) (nI i) M = _
    unfold fn5_setFlow_b9B
    rw [if_pos (nI_le (by omega) (by omega))]
  | succ m ih =>
    intro i fuel M hi hf s t h1 h2
    obtain ⟨g, rfl⟩ : ∃ g, fuel = g + 1 := ⟨fuel - 1, by omega⟩
    obtain ⟨r1, k1, l1⟩ := s26t s (show i < 9 by omega)
    obtain ⟨t1, t2, t3, t4, t5, t6, t7, t8, t9⟩ := id t
    have st : fn5_setFlow_b9 N (g + 1) 25 u (nI n) (nI i) M = fn5_setFlow_b9 N g 25 u (nI n) (nI (i + 1)) (am_wI M (u + 1) i (iI (V i))) := by
      show fn5_setFlow_b9B N (fn5_setFlow_b9 N g) 25 u (nI n) (nI i) M = _
      unfold fn5_setFlow_b9B
      rw [if_neg (nI_ge (by omega) (by omega)), nk_k, t3, nk_dd, nk_k, sk25 s, nk_dd, sr25_0 s, nk_k, sk26 s, nk_dd, sl26 s, nk_in (show i < 9 by omega) (by decide), nk_ck, nI_clamp (show i < 2147483648 by omega), r1, nk_k, k1, nk_dd, l1, nk_in (show n < 10 by omega) (by decide), nk_ck, t8, nk_k, t4, nk_dd, t5, nk_in (show i < n + 1 by omega) (by omega), nk_ck, nI_clamp (show n < 2147483648 by omega), h1 i (by omega), li_ii, nI_1]
    rw [st]
    have f1 : Fs [u + 1] M (am_wI M (u + 1) i (iI (V i))) := fs_wI _ _ _ List.mem_cons_self
    obtain ⟨M', a1, a2, a3, a4⟩ := ih (i + 1) g _ (by omega) (by omega) (fs_shp f1 s) (ntt_fs f1 t) (fun p hp => by rw [qJ_wI]; exact h1 p hp) (fun p hp => by
      by_cases q : p = i
      · rw [q, rI_eq]
      · rw [rI_ix _ _ _ q]; exact h2 p (by omega))
    refine ⟨M', a1, fs_trans f1 a2, a3, ?_⟩
    rw [a4, rI_ix _ _ _ (by omega)]
theorem fc_le (hW : W ≤ 14) (w : Nat) : (fC a b W n w).natAbs ≤ 2000000000 := by
  unfold fC
  have h1 := fv_le (a := a) (b := b) (n := n) hW (a w)
  have h2 := fv_le (a := a) (b := b) (n := n) hW (b w)
  omega
/-- the wires, as the class holds them -/
def WrC (M : am_Mem) (a b : Nat → Nat) (W : Nat) : Prop := ∀ w, w < W → am_I M 36 w = nI (a w) ∧ am_I M 37 w = nI (b w)
theorem sf_b {N : Nat} (hN : 100000 ≤ N) (hn : n ≤ 8) (hW : W ≤ 14) (ha : ∀ w, w < W → a w ≤ n ∧ b w ≤ n ∧ ¬ a w = b w) (g0 : ¬ fG a b W n W = 0) : ∀ m w fuel M, w + m = W → m < fuel → Shp M → NtT M u n W → am_I M u 1 = nI W → WrC M a b W → (∀ p, p ≤ n → am_I M (u + 1) p = iI (fV a b W n p)) → (∀ x, x < w → am_I M (u + 2) x = iI (fC a b W n x)) → ∃ M', fn5_setFlow_b40 N fuel 25 u (nI (fG a b W n w)) (nI w) M = fn5_setFlow_b110 N N 25 u (nI (fG a b W n W)) 0 M' ∧ Fs [u + 2] M M' ∧ ∀ x, x < W → am_I M' (u + 2) x = iI (fC a b W n x) := by
  intro m
  induction m with
  | zero =>
    intro w fuel M hw hf s t e1 wc h1 h2
    obtain ⟨g, rfl⟩ : ∃ g, fuel = g + 1 := ⟨fuel - 1, by omega⟩
    have e : w = W := by omega
    subst e
    obtain ⟨t1, t2, t3, t4, t5, t6, t7, t8, t9⟩ := id t
    refine ⟨M, ?_, fs_refl _ _, h2⟩
    show fn5_setFlow_b40B N (fn5_setFlow_b40 N g) 25 u (nI (fG a b w n w)) (nI w) M = _
    unfold fn5_setFlow_b40B
    have gl := fg_le (a := a) (b := b) (n := n) hW w
    rw [nk_k, t3, nk_dd, e1, if_pos (nI_le (Nat.le_refl w) (by omega)), if_neg (show ¬ nI (fG a b w n w) = (0 : Int32) from fun z => g0 (nI_inj (b := 0) (by omega) (by decide) z))]
  | succ m ih =>
    intro w fuel M hw hf s t e1 wc h1 h2
    obtain ⟨g, rfl⟩ : ∃ g, fuel = g + 1 := ⟨fuel - 1, by omega⟩
    obtain ⟨t1, t2, t3, t4, t5, t6, t7, t8, t9⟩ := id t
    obtain ⟨an, bn, ne⟩ := ha w (by omega)
    obtain ⟨wa, wb⟩ := wc w (by omega)
    have gl := fg_le (a := a) (b := b) (n := n) hW w
    have cl := fc_le (a := a) (b := b) (n := n) hW w
    have c1 : (nI (a w)).toNatClampNeg = a w := nI_clamp (by omega)
    have c2 : (nI (b w)).toNatClampNeg = b w := nI_clamp (by omega)
    have c3 : (nI w).toNatClampNeg = w := nI_clamp (by omega)
    have i1 : am_in (nI w) 14 = true := nk_in (by omega) (by decide)
    have i2 : am_in (nI (a w)) (n + 1) = true := nk_in (by omega) (by omega)
    have i3 : am_in (nI (b w)) (n + 1) = true := nk_in (by omega) (by omega)
    have i4 : am_in (nI w) W = true := nk_in (by omega) (by omega)
    have sub : iI (fV a b W n (a w)) - iI (fV a b W n (b w)) = iI (fC a b W n w) := (Int32.ofInt_sub _ _).symm
    have f1 : Fs [u + 2] M (am_wI M (u + 2) w (iI (fC a b W n w))) := fs_wI _ _ _ List.mem_cons_self
    have gd := gd_ok (N := N) hN (am_wI M (u + 2) w (iI (fC a b W n w))) (a := fG a b W n w) (b := (fC a b W n w).natAbs) (by omega) (by omega)
    have st : fn5_setFlow_b40 N (g + 1) 25 u (nI (fG a b W n w)) (nI w) M = fn5_setFlow_b40 N g 25 u (nI (fG a b W n (w + 1))) (nI (w + 1)) (am_wI M (u + 2) w (iI (fC a b W n w))) := by
      show fn5_setFlow_b40B N (fn5_setFlow_b40 N g) 25 u (nI (fG a b W n w)) (nI w) M = _
      unfold fn5_setFlow_b40B
      rw [nk_k, t3, nk_dd, e1, if_neg (nI_ge (by omega) (by omega))]
      simp only [nk_k, sk25 s, eq_self, decide_true, nk_ck, sr25_1 s, sr25_2 s, sk36 s, sl36 s, sk37 s, sl37 s, i1, t8, t4, t5, wa, wb, i2, i3, t9, t6, t7, i4, c1, c2, c3, h1 _ an, h1 _ bn, sub, rI_eq, ii_abs (show (fC a b W n w).natAbs < 2147483648 by omega), gd, nk_bd, nI_1]
      rfl
    rw [st]
    obtain ⟨M', a1, a2, a3⟩ := ih (w + 1) g _ (by omega) (by omega) (fs_shp f1 s) (ntt_fs f1 t) (by rw [rI_ne _ _ _ (by omega)]; exact e1) (fun x hx => by rw [rI_ne _ _ _ (by omega), rI_ne _ _ _ (by omega)]; exact wc x hx) (fun p hp => by rw [rI_ne _ _ _ (by omega)]; exact h1 p hp) (fun x hx => by
      by_cases q : x = w
      · rw [q, rI_eq]
      · rw [rI_ix _ _ _ q]; exact h2 x (by omega))
    exact ⟨M', a1, fs_trans f1 a2, a3⟩
theorem sf_c {N : Nat} (hn : n ≤ 8) (hW : W ≤ 14) (d0 : 0 < fD a b W n) (g0 : ¬ fG a b W n W = 0) : ∀ m i fuel M, i + m = n + 1 → m < fuel → Shp M → NtT M u n W → am_I M u 0 = nI (n + 1) → (∀ p, p < i → am_I M (u + 1) p = iI (fL a b W n p)) → (∀ p, i ≤ p → p ≤ n → am_I M (u + 1) p = iI (fV a b W n p)) → ∃ M', fn5_setFlow_b110 N fuel 25 u (nI (fG a b W n W)) (nI i) M = fn5_setFlow_b139 N N 25 u (nI (fG a b W n W)) 0 M' ∧ Fs [u + 1] M M' ∧ ∀ p, p ≤ n → am_I M' (u + 1) p = iI (fL a b W n p) := by
  intro m
  have gl := fg_le (a := a) (b := b) (n := n) hW W
  induction m with
  | zero =>
    intro i fuel M hi hf s t e0 h1 h2
    obtain ⟨g, rfl⟩ : ∃ g, fuel = g + 1 := ⟨fuel - 1, by omega⟩
    obtain ⟨t1, t2, t3, t4, t5, t6, t7, t8, t9⟩ := id t
    refine ⟨M, ?_, fs_refl _ _, fun p hp => h1 p (by omega)⟩
    show fn5_setFlow_b110B N (fn5_setFlow_b110 N g) 25 u _ (nI i) M = _
    unfold fn5_setFlow_b110B
    rw [nk_k, t3, nk_dd, e0, if_pos (nI_le (by omega) (by omega))]
  | succ m ih =>
    intro i fuel M hi hf s t e0 h1 h2
    obtain ⟨g, rfl⟩ : ∃ g, fuel = g + 1 := ⟨fuel - 1, by omega⟩
    obtain ⟨t1, t2, t3, t4, t5, t6, t7, t8, t9⟩ := id t
    have vl := fv_le (a := a) (b := b) (n := n) hW i
    have dv : iI (fV a b W n i) / nI (fG a b W n W) = iI (fL a b W n i) := ii_div (d := (fG a b W n W : Int)) (by omega) (by omega) (by omega) (fg_v d0 i)
    have gz : decide (¬ nI (fG a b W n W) = 0) = true := decide_eq_true (fun z => g0 (nI_inj (b := 0) (by omega) (by decide) z))
    have st : fn5_setFlow_b110 N (g + 1) 25 u (nI (fG a b W n W)) (nI i) M = fn5_setFlow_b110 N g 25 u (nI (fG a b W n W)) (nI (i + 1)) (am_wI M (u + 1) i (iI (fL a b W n i))) := by
      show fn5_setFlow_b110B N (fn5_setFlow_b110 N g) 25 u _ (nI i) M = _
      unfold fn5_setFlow_b110B
      rw [nk_k, t3, nk_dd, e0, if_neg (nI_ge (by omega) (by omega)), t8, nk_k, t4, nk_dd, t5, nk_in (show i < n + 1 by omega) (by omega), nk_ck, gz, nk_ck, nk_ck, nI_clamp (by omega), h2 i (Nat.le_refl i) (by omega), dv, nI_1]
    rw [st]
    have f1 : Fs [u + 1] M (am_wI M (u + 1) i (iI (fL a b W n i))) := fs_wI _ _ _ List.mem_cons_self
    obtain ⟨M', a1, a2, a3⟩ := ih (i + 1) g _ (by omega) (by omega) (fs_shp f1 s) (ntt_fs f1 t) (by rw [rI_ne _ _ _ (by omega)]; exact e0) (fun p hp => by
      by_cases q : p = i
      · rw [q, rI_eq]
      · rw [rI_ix _ _ _ q]; exact h1 p (by omega)) (fun p hp1 hp2 => by rw [rI_ix _ _ _ (by omega)]; exact h2 p (by omega) hp2)
    exact ⟨M', a1, fs_trans f1 a2, a3⟩
theorem fl_le (hW : W ≤ 14) (d0 : 0 < fD a b W n) (g0 : ¬ fG a b W n W = 0) (p : Nat) : (fL a b W n p).natAbs ≤ 1000000000 := by
  have h1 := fv_le (a := a) (b := b) (n := n) hW p
  have h2 := abs_div (d := (fG a b W n W : Int)) (by omega) (fg_v d0 p)
  unfold fL
  omega
theorem sf_d {N : Nat} (hN : 100000 ≤ N) (hn : n ≤ 8) (hn0 : 0 < n) (hW : W ≤ 14) (ha : ∀ w, w < W → a w ≤ n ∧ b w ≤ n ∧ ¬ a w = b w) (d0 : 0 < fD a b W n) (g0 : ¬ fG a b W n W = 0) : ∀ m w fuel M, w + m = W → m < fuel → Shp M → NtT M u n W → am_I M u 1 = nI W → am_J M u 4 = lI (fD a b W n) → WrC M a b W → (∀ p, p ≤ n → am_I M (u + 1) p = iI (fL a b W n p)) → (∀ x, x < w → am_I M (u + 2) x = iI (fI a b W n x) ∧ am_I M 38 x = iI (fS a b W n x)) → (∀ x, w ≤ x → x < W → am_I M (u + 2) x = iI (fC a b W n x)) → ∃ M', fn5_setFlow_b139 N fuel 25 u (nI (fG a b W n W)) (nI w) M = some ((), M') ∧ Fs [38, u, u + 2] M M' ∧ (∀ x, x < W → am_I M' (u + 2) x = iI (fI a b W n x) ∧ am_I M' 38 x = iI (fS a b W n x)) ∧ (∀ y, ¬ y = 5 → ¬ y = 6 → am_I M' u y = am_I M u y) ∧ am_J M' u = am_J M u ∧ am_I M' u 5 = iI (fD a b W n / (fG a b W n W : Int)) ∧ am_I M' u 6 = iI (fL a b W n 0) := by
  intro m
  have gl := fg_le (a := a) (b := b) (n := n) hW W
  induction m with
  | zero =>
    intro w fuel M hw hf s t e1 e4 wc h1 h2 h3
    obtain ⟨g, rfl⟩ : ∃ g, fuel = g + 1 := ⟨fuel - 1, by omega⟩
    obtain ⟨t1, t2, t3, t4, t5, t6, t7, t8, t9⟩ := id t
    have dl := fd_le (a := a) (b := b) hW n
    have xx : (nI (fG a b W n W)).toInt64 = lI (fG a b W n W : Int) := ii_li (z := (fG a b W n W : Int)) (by omega)
    have dv : lI (fD a b W n) / lI (fG a b W n W : Int) = lI (fD a b W n / (fG a b W n W : Int)) := li_divd (by omega) (by omega) (by unfold fD; omega) (fg_d hn0)
    have gz : decide (¬ lI (fG a b W n W : Int) = 0) = true := decide_eq_true (fun z => g0 (by have := (li_0 (by omega)).mp z; omega))
    have st : fn5_setFlow_b139 N (g + 1) 25 u (nI (fG a b W n W)) (nI w) M = some ((), am_wI (am_wI M u 5 (iI (fD a b W n / (fG a b W n W : Int)))) u 6 (iI (fL a b W n 0))) := by
      show fn5_setFlow_b139B N (fn5_setFlow_b139 N g) 25 u _ (nI w) M = _
      unfold fn5_setFlow_b139B
      rw [nk_k, t3, nk_dd, e1, if_pos (nI_le (by omega) (by omega)), xx, gz, nk_ck, t8, nk_k, t4, nk_dd, t5, show (0 : Int32) = nI 0 from rfl, nk_in (show 0 < n + 1 by omega) (by omega), nk_ck, e4, dv, li_ii, nI_clamp (by decide), rI_ne _ _ _ (show ¬ u + 1 = u by omega), h1 0 (Nat.zero_le n)]
    refine ⟨_, st, fs_trans (fs_wI _ _ _ (by simp)) (fs_wI _ _ _ (by simp)), fun x hx => ?_, fun y y5 y6 => ?_, ?_, ?_, ?_⟩
    · rw [rI_ne _ _ _ (show ¬ u + 2 = u by omega), rI_ne _ _ _ (show ¬ u + 2 = u by omega), rI_ne _ _ _ (show ¬ 38 = u by omega), rI_ne _ _ _ (show ¬ 38 = u by omega)]
      exact h2 x (by omega)
    · rw [rI_ix _ _ _ y6, rI_ix _ _ _ y5]
    · rw [qJ_wI, qJ_wI]
    · rw [rI_ix _ _ _ (by decide), rI_eq]
    · rw [rI_eq]
  | succ m ih =>
    intro w fuel M hw hf s t e1 e4 wc h1 h2 h3
    obtain ⟨g, rfl⟩ : ∃ g, fuel = g + 1 := ⟨fuel - 1, by omega⟩
    obtain ⟨t1, t2, t3, t4, t5, t6, t7, t8, t9⟩ := id t
    obtain ⟨an, bn, ne⟩ := ha w (by omega)
    obtain ⟨wa, wb⟩ := wc w (by omega)
    have cl := fc_le (a := a) (b := b) (n := n) hW w
    have c1 : (nI (a w)).toNatClampNeg = a w := nI_clamp (by omega)
    have c2 : (nI (b w)).toNatClampNeg = b w := nI_clamp (by omega)
    have c3 : (nI w).toNatClampNeg = w := nI_clamp (by omega)
    have i1 : am_in (nI w) 14 = true := nk_in (by omega) (by decide)
    have i2 : am_in (nI (a w)) (n + 1) = true := nk_in (by omega) (by omega)
    have i3 : am_in (nI (b w)) (n + 1) = true := nk_in (by omega) (by omega)
    have i4 : am_in (nI w) W = true := nk_in (by omega) (by omega)
    have dv : iI (fC a b W n w) / nI (fG a b W n W) = iI (fI a b W n w) := ii_div (d := (fG a b W n W : Int)) (by omega) (by omega) (by omega) (fg_dvdI (by omega))
    have gz : decide (¬ nI (fG a b W n W) = 0) = true := decide_eq_true (fun z => g0 (nI_inj (b := 0) (by omega) (by decide) z))
    have n1 : ¬ 36 = u + 2 := by omega
    have n2 : ¬ 37 = u + 2 := by omega
    have n3 : ¬ u + 1 = u + 2 := by omega
    have la := fl_le (a := a) (b := b) hW d0 g0 (a w)
    have lb := fl_le (a := a) (b := b) hW d0 g0 (b w)
    have mx : (if iI (fL a b W n (a w)) < iI (fL a b W n (b w)) then iI (fL a b W n (b w)) else iI (fL a b W n (a w))) = iI (fS a b W n w) := by
      unfold fS
      by_cases q : fL a b W n (a w) < fL a b W n (b w)
      · rw [if_pos q, if_pos ((ii_lt (by omega) (by omega)).mpr q)]
      · rw [if_neg q, if_neg (fun z => q ((ii_lt (by omega) (by omega)).mp z))]
    have st : fn5_setFlow_b139 N (g + 1) 25 u (nI (fG a b W n W)) (nI w) M = fn5_setFlow_b139 N g 25 u (nI (fG a b W n W)) (nI (w + 1)) (am_wI (am_wI M (u + 2) w (iI (fI a b W n w))) 38 w (iI (fS a b W n w))) := by
      show fn5_setFlow_b139B N (fn5_setFlow_b139 N g) 25 u _ (nI w) M = _
      unfold fn5_setFlow_b139B
      rw [nk_k, t3, nk_dd, e1, if_neg (nI_ge (by omega) (by omega))]
      simp only [nk_k, sk25 s, eq_self, decide_true, nk_ck, sr25_1 s, sr25_2 s, sr25_3 s, sk36 s, sl36 s, sk37 s, sl37 s, sk38 s, sl38 s, i1, t8, t4, t5, wa, wb, i2, i3, t9, t6, t7, i4, c1, c2, c3, h3 w (Nat.le_refl w) (by omega), dv, gz, rI_ne _ _ _ n1, rI_ne _ _ _ n2, rI_ne _ _ _ n3, h1 _ an, h1 _ bn, mx, nI_1]
    rw [st]
    have f1 : Fs [38, u, u + 2] M (am_wI (am_wI M (u + 2) w (iI (fI a b W n w))) 38 w (iI (fS a b W n w))) := fs_trans (fs_wI _ _ _ (by simp)) (fs_wI _ _ _ (by simp))
    have m1 : ∀ y, am_I (am_wI (am_wI M (u + 2) w (iI (fI a b W n w))) 38 w (iI (fS a b W n w))) u y = am_I M u y := fun y => by rw [rI_ne _ _ _ (by omega), rI_ne _ _ _ (by omega)]
    have m2 : ∀ y, am_I (am_wI (am_wI M (u + 2) w (iI (fI a b W n w))) 38 w (iI (fS a b W n w))) (u + 1) y = am_I M (u + 1) y := fun y => by rw [rI_ne _ _ _ (by omega), rI_ne _ _ _ (by omega)]
    have m3 : am_J (am_wI (am_wI M (u + 2) w (iI (fI a b W n w))) 38 w (iI (fS a b W n w))) u = am_J M u := by rw [qJ_wI, qJ_wI]
    have m4 : WrC (am_wI (am_wI M (u + 2) w (iI (fI a b W n w))) 38 w (iI (fS a b W n w))) a b W := fun x hx => by
      rw [rI_ne _ _ _ (by decide), rI_ne _ _ _ (by omega), rI_ne _ _ _ (by decide), rI_ne _ _ _ (by omega)]; exact wc x hx
    have m5 : ∀ x, x < w + 1 → am_I (am_wI (am_wI M (u + 2) w (iI (fI a b W n w))) 38 w (iI (fS a b W n w))) (u + 2) x = iI (fI a b W n x) ∧ am_I (am_wI (am_wI M (u + 2) w (iI (fI a b W n w))) 38 w (iI (fS a b W n w))) 38 x = iI (fS a b W n x) := by
      intro x hx
      rw [rI_ne _ _ _ (show ¬ u + 2 = 38 by omega)]
      by_cases q : x = w
      · rw [q, rI_eq, rI_eq]; exact ⟨rfl, rfl⟩
      · rw [rI_ix _ _ _ q, rI_ix _ _ _ q, rI_ne _ _ _ (show ¬ 38 = u + 2 by omega)]; exact h2 x (by omega)
    have m6 : ∀ x, w + 1 ≤ x → x < W → am_I (am_wI (am_wI M (u + 2) w (iI (fI a b W n w))) 38 w (iI (fS a b W n w))) (u + 2) x = iI (fC a b W n x) := by
      intro x hx1 hx2
      rw [rI_ne _ _ _ (show ¬ u + 2 = 38 by omega), rI_ix _ _ _ (by omega)]
      exact h3 x (by omega) hx2
    revert f1 m1 m2 m3 m4 m5 m6
    generalize am_wI (am_wI M (u + 2) w (iI (fI a b W n w))) 38 w (iI (fS a b W n w)) = M1
    intro f1 m1 m2 m3 m4 m5 m6
    obtain ⟨M', a1, a2, a3, a4, a5, a6, a7⟩ := ih (w + 1) g M1 (by omega) (by omega) (fs_shp f1 s) (ntt_fs f1 t) ((m1 1).trans e1) (by rw [m3]; exact e4) m4 (fun p hp => (m2 p).trans (h1 p hp)) m5 m6
    exact ⟨M', a1, fs_trans f1 a2, a3, fun y y5 y6 => (a4 y y5 y6).trans (m1 y), a5.trans m3, a6, a7⟩
end
