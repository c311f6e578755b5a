theorem i28 (r w : Nat) : (28 : Int32) * nI r + 2 * nI w = nI (28 * r + 2 * w) := by
  rw [show (28 : Int32) * nI r = nI (28 * r) from (Int32.ofNat_mul 28 _).symm, show (2 : Int32) * nI w = nI (2 * w) from (Int32.ofNat_mul 2 _).symm, lw_add]
theorem four_c (z : Int) (p q r s : Prop) [Decidable p] [Decidable q] [Decidable r] [Decidable s] : z + (if p ∧ r then 1 else 0) + (if q ∧ s then 1 else 0) + (if p ∧ s then -1 else 0) + (if q ∧ r then -1 else 0) = z + ((if p then 1 else 0) - (if q then 1 else 0)) * ((if r then 1 else 0) - (if s then 1 else 0)) := by
  by_cases h1 : p <;> by_cases h2 : q <;> by_cases h3 : r <;> by_cases h4 : s <;> simp [h1, h2, h3, h4] <;> omega
/-- a number added to one place of the reference's matrix -/
def AdQ (M M' : am_Mem) (m : Nat) (ri cj : Nat → Nat) (x y : Nat) (v : Int) : Prop := Fs [133] M M' ∧ ∀ i, i < m → ∀ j, j < m → am_J M' 133 (8 * i + j) = am_J M 133 (8 * i + j) + lI (if ri i = x ∧ cj j = y then v else 0)
theorem li_add0 (x : Int64) : x + lI 0 = x := by
  show x + 0 = x
  exact Int64.add_zero x
theorem adq_no {M : am_Mem} {m x y : Nat} {ri cj : Nat → Nat} {v : Int} (h : ∀ i, i < m → ∀ j, j < m → ¬ (ri i = x ∧ cj j = y)) : AdQ M M m ri cj x y v :=
  ⟨fs_refl _ _, fun i hi j hj => by rw [if_neg (h i hi j hj), li_add0]⟩
theorem adq_at {M : am_Mem} {m x y I J : Nat} {ri cj : Nat → Nat} {v : Int} (hm : m ≤ 8) (hI : I < m) (hJ : J < m) (e1 : ∀ i, i < m → (ri i = x ↔ i = I)) (e2 : ∀ j, j < m → (cj j = y ↔ j = J)) : AdQ M (am_wJ M 133 (8 * I + J) (am_J M 133 (8 * I + J) + lI v)) m ri cj x y v := by
  refine ⟨fs_wJ _ _ _ List.mem_cons_self, fun i hi j hj => ?_⟩
  by_cases q : ri i = x ∧ cj j = y
  · rw [if_pos q, (e1 i hi).mp q.1, (e2 j hj).mp q.2, rJ_eq]
  · rw [if_neg q, li_add0, rJ_ix]
    intro e
    have h1 : i = I := by omega
    have h2 : j = J := by omega
    exact q ⟨(e1 i hi).mpr h1, (e2 j hj).mpr h2⟩
section
variable {n : Nat}
theorem ad_f {M : am_Mem} {x y : Nat} {v : Int} (hn : n ≤ 8) (hx : x ≤ n) (hy : y ≤ n) (s : Shp M) : ∃ M', fn12_adds M 110 (nI n) (nI x) (nI y) (-1) (-1) (lI v) = some ((), M') ∧ AdQ M M' n (fun i => i) (fun j => j) x y v := by
  unfold fn12_adds fn12_adds_b0 fn12_adds_b22 fn12_adds_b41 fn12_adds_b42 fn12_adds_b62 fn12_adds_b63
  have n1 : ∀ z, z ≤ 8 → ¬ nI z = (-1 : Int32) := fun z hz e => by
    have := congrArg Int32.toInt e
    rw [nI_toInt (by omega), show (-1 : Int32).toInt = -1 from rfl] at this
    omega
  by_cases q1 : n ≤ x
  · rw [if_pos (nI_le q1 (by omega))]
    exact ⟨M, rfl, adq_no (fun i hi j hj e => by have : i = x := e.1; omega)⟩
  · rw [if_neg (nI_ge (by omega) (by omega))]
    by_cases q2 : n ≤ y
    · rw [if_pos (nI_le q2 (by omega))]
      exact ⟨M, rfl, adq_no (fun i hi j hj e => by have : j = y := e.2; omega)⟩
    · rw [if_neg (nI_ge (by omega) (by omega)), if_neg (n1 x (by omega)), if_neg (n1 y (by omega)), if_pos rfl, if_pos rfl, nk_k, sk110 s, nk_dd, sr110_36 s, nk_k, sk133 s, nk_dd, sl133 s, i88, nk_in (show 8 * x + y < 64 by omega) (by decide), nk_ck, nk_ck, nI_clamp (by omega)]
      exact ⟨_, rfl, adq_at hn (by omega) (by omega) (fun i _ => Iff.rfl) (fun j _ => Iff.rfl)⟩
theorem ad_m {M : am_Mem} {x y p : Nat} {v : Int} (hn : n ≤ 8) (hp : p < n) (hx : x ≤ n) (hy : y ≤ n) (s : Shp M) : ∃ M', fn12_adds M 110 (nI n) (nI x) (nI y) 0 (nI p) (lI v) = some ((), M') ∧ AdQ M M' (n - 1) (fun i => i + 1) (fun j => if j < p then j else j + 1) x y v := by
  unfold fn12_adds fn12_adds_b0 fn12_adds_b22 fn12_adds_b41 fn12_adds_b42 fn12_adds_b62 fn12_adds_b63
  have n1 : ∀ z, z ≤ 8 → ¬ nI z = (-1 : Int32) := fun z hz e => by
    have := congrArg Int32.toInt e
    rw [nI_toInt (by omega), show (-1 : Int32).toInt = -1 from rfl] at this
    omega
  have cjl : ∀ j, (if j < p then j else j + 1) ≤ j + 1 := fun j => by
    by_cases q : j < p
    · rw [if_pos q]; omega
    · rw [if_neg q]; omega
  have cjp : ∀ j, ¬ (if j < p then j else j + 1) = p := fun j => by
    by_cases q : j < p
    · rw [if_pos q]; omega
    · rw [if_neg q]; omega
  by_cases q1 : n ≤ x
  · rw [if_pos (nI_le q1 (by omega))]
    exact ⟨M, rfl, adq_no (fun i hi j hj e => by have : i + 1 = x := e.1; omega)⟩
  · rw [if_neg (nI_ge (by omega) (by omega))]
    by_cases q2 : n ≤ y
    · rw [if_pos (nI_le q2 (by omega))]
      exact ⟨M, rfl, adq_no (fun i hi j hj e => by have h1 : (if j < p then j else j + 1) = y := e.2; have h2 := cjl j; omega)⟩
    · rw [if_neg (nI_ge (by omega) (by omega))]
      by_cases q3 : x = 0
      · rw [if_pos (show nI x = (0 : Int32) by rw [q3]; rfl)]
        exact ⟨M, rfl, adq_no (fun i hi j hj e => by have : i + 1 = x := e.1; omega)⟩
      · rw [if_neg (show ¬ nI x = (0 : Int32) from fun e => q3 (nI_inj (b := 0) (by omega) (by decide) e))]
        by_cases q4 : y = p
        · rw [if_pos (congrArg nI q4)]
          exact ⟨M, rfl, adq_no (fun i hi j hj e => cjp j (e.2.trans q4))⟩
        · obtain ⟨x', rfl⟩ : ∃ x', x = x' + 1 := ⟨x - 1, by omega⟩
          rw [if_neg (fun e => q4 (nI_inj (by omega) (by omega) e)), if_neg (show ¬ (0 : Int32) = -1 by decide), if_neg (show ¬ nI (x' + 1) ≤ (0 : Int32) from nI_ge (b := x' + 1) (a := 0) (by omega) (by omega)), if_neg (n1 p (by omega)), nI_s1]
          by_cases q5 : y ≤ p
          · rw [if_pos (nI_le q5 (by omega)), nk_k, sk110 s, nk_dd, sr110_36 s, nk_k, sk133 s, nk_dd, sl133 s, i88, nk_in (show 8 * x' + y < 64 by omega) (by decide), nk_ck, nk_ck, nI_clamp (by omega)]
            refine ⟨_, rfl, adq_at (by omega) (by omega) (by omega) (fun i _ => by omega) (fun j _ => ?_)⟩
            by_cases q : j < p
            · rw [if_pos q]
            · rw [if_neg q]; omega
          · obtain ⟨y', rfl⟩ : ∃ y', y = y' + 1 := ⟨y - 1, by omega⟩
            rw [if_neg (nI_ge (by omega) (by omega)), nI_s1, nk_k, sk110 s, nk_dd, sr110_36 s, nk_k, sk133 s, nk_dd, sl133 s, i88, nk_in (show 8 * x' + y' < 64 by omega) (by decide), nk_ck, nk_ck, nI_clamp (by omega)]
            refine ⟨_, rfl, adq_at (by omega) (by omega) (by omega) (fun i _ => by omega) (fun j _ => ?_)⟩
            by_cases q : j < p
            · rw [if_pos q]; omega
            · rw [if_neg q]; omega
/-- the wires, as the reference holds them -/
def WrM (M : am_Mem) (r : Nat) (a b : Nat → Nat) (W : Nat) : Prop := am_I M 123 r = nI W ∧ ∀ w, w < W → am_I M 124 (28 * r + 2 * w) = nI (a w) ∧ am_I M 124 (28 * r + 2 * w + 1) = nI (b w)
theorem lm_z {N : Nat} {x1 x2 x3 x4 : Int32} : ∀ m z fuel M, z + m = 64 → m < fuel → Shp M → (∀ y, y < z → am_J M 133 y = 0) → ∃ M', fn12_laysMatrix_b13 N fuel 110 x1 x2 x3 x4 (nI z) M = fn12_laysMatrix_b37 N N 110 x1 x2 x3 x4 (nI 0) M' ∧ Fs [133] M M' ∧ ∀ y, y < 64 → am_J M' 133 y = 0 := by
  intro m
  induction m with
  | zero =>
    intro z fuel M hz hf s h
    obtain ⟨g, rfl⟩ : ∃ g, fuel = g + 1 := ⟨fuel - 1, by omega⟩
    refine ⟨M, ?_, fs_refl _ _, fun y hy => h y (by omega)⟩
    show fn12_laysMatrix_b13B N (fn12_laysMatrix_b13 N g) 110 x1 x2 x3 x4 (nI z) M = _
    unfold fn12_laysMatrix_b13B
    rw [if_pos (show (64 : Int32) ≤ nI z from nI_le (a := 64) (by omega) (by omega))]
    rfl
  | succ m ih =>
    intro z fuel M hz hf s h
    obtain ⟨g, rfl⟩ : ∃ g, fuel = g + 1 := ⟨fuel - 1, by omega⟩
    have st : fn12_laysMatrix_b13 N (g + 1) 110 x1 x2 x3 x4 (nI z) M = fn12_laysMatrix_b13 N g 110 x1 x2 x3 x4 (nI (z + 1)) (am_wJ M 133 z 0) := by
      show fn12_laysMatrix_b13B N (fn12_laysMatrix_b13 N g) 110 x1 x2 x3 x4 (nI z) M = _
      unfold fn12_laysMatrix_b13B
      rw [if_neg (show ¬ (64 : Int32) ≤ nI z from nI_ge (b := 64) (by omega) (by decide)), nk_k, sk110 s, nk_dd, sr110_36 s, nk_k, sk133 s, nk_dd, sl133 s, nk_in (show z < 64 by omega) (by decide), nk_ck, nI_clamp (by omega), nI_1]
    rw [st]
    have f1 : Fs [133] M (am_wJ M 133 z 0) := fs_wJ _ _ _ List.mem_cons_self
    obtain ⟨M', a1, a2, a3⟩ := ih (z + 1) g _ (by omega) (by omega) (fs_shp f1 s) (fun y hy => by
      by_cases q : y = z
      · rw [q, rJ_eq]
      · rw [rJ_ix _ _ _ q]; exact h y (by omega))
    exact ⟨M', a1, fs_trans f1 a2, a3⟩
theorem lm_w {N r m : Nat} {a b : Nat → Nat} {W : Nat} {x2 x3 : Int32} {ri cj : Nat → Nat} (hr : r < 6) (hn : n ≤ 8) (hm : m ≤ 8) (hW : W ≤ 14) (ha : ∀ w, w < W → a w ≤ n ∧ b w ≤ n ∧ ¬ a w = b w) (had : ∀ M x y v, Shp M → x ≤ n → y ≤ n → ∃ M', fn12_adds M 110 (nI n) (nI x) (nI y) x2 x3 (lI v) = some ((), M') ∧ AdQ M M' m ri cj x y v) : ∀ k w fuel M, w + k = W → k < fuel → Shp M → WrM M r a b W → (∀ i, i < m → ∀ j, j < m → am_J M 133 (8 * i + j) = lI (Lap a b w (cj j) (ri i))) → ∃ M', fn12_laysMatrix_b37 N fuel 110 (nI r) x2 x3 (nI n) (nI w) M = (if x2 = -1 then some (nI n, M') else some (nI n - 1, M')) ∧ Fs [133] M M' ∧ ∀ i, i < m → ∀ j, j < m → am_J M' 133 (8 * i + j) = lI (Lap a b W (cj j) (ri i)) := by
  intro k
  induction k with
  | zero =>
    intro w fuel M hw hf s wm h
    obtain ⟨g, rfl⟩ : ∃ g, fuel = g + 1 := ⟨fuel - 1, by omega⟩
    have e : w = W := by omega
    subst e
    refine ⟨M, ?_, fs_refl _ _, h⟩
    show fn12_laysMatrix_b37B N (fn12_laysMatrix_b37 N g) 110 (nI r) x2 x3 (nI n) (nI w) M = _
    unfold fn12_laysMatrix_b37B fn12_laysMatrix_b158
    rw [nk_k, sk110 s, nk_dd, sr110_25 s, nk_k, sk123 s, nk_dd, sl123 s, nk_in hr (by decide), nk_ck, nI_clamp (by omega), wm.1, if_pos (nI_le (Nat.le_refl w) (by omega))]
  | succ k ih =>
    intro w fuel M hw hf s wm h
    obtain ⟨g, rfl⟩ : ∃ g, fuel = g + 1 := ⟨fuel - 1, by omega⟩
    obtain ⟨an, bn, _⟩ := ha w (by omega)
    obtain ⟨wa, wb⟩ := wm.2 w (by omega)
    obtain ⟨M1, a1, a2, a3⟩ := had M (a w) (a w) 1 s an an
    obtain ⟨M2, b1, b2, b3⟩ := had M1 (b w) (b w) 1 (fs_shp a2 s) bn bn
    obtain ⟨M3, c1, c2, c3⟩ := had M2 (a w) (b w) (-1) (fs_shp b2 (fs_shp a2 s)) an bn
    obtain ⟨M4, d1, d2, d3⟩ := had M3 (b w) (a w) (-1) (fs_shp c2 (fs_shp b2 (fs_shp a2 s))) bn an
    have s1 := fs_shp a2 s
    have s2 := fs_shp b2 s1
    have s3 := fs_shp c2 s2
    have st : fn12_laysMatrix_b37 N (g + 1) 110 (nI r) x2 x3 (nI n) (nI w) M = fn12_laysMatrix_b37 N g 110 (nI r) x2 x3 (nI n) (nI (w + 1)) M4 := by
      show fn12_laysMatrix_b37B N (fn12_laysMatrix_b37 N g) 110 (nI r) x2 x3 (nI n) (nI w) M = _
      unfold fn12_laysMatrix_b37B fn12_laysMatrix_b64 fn12_laysMatrix_b82
      have a1' : fn12_adds M 110 (nI n) (nI (a w)) (nI (a w)) x2 x3 (1 : Int64) = _ := a1
      have b1' : fn12_adds M1 110 (nI n) (nI (b w)) (nI (b w)) x2 x3 (1 : Int64) = _ := b1
      have c1' : fn12_adds M2 110 (nI n) (nI (a w)) (nI (b w)) x2 x3 (-1 : Int64) = _ := c1
      have d1' : fn12_adds M3 110 (nI n) (nI (b w)) (nI (a w)) x2 x3 (-1 : Int64) = _ := d1
      rw [nk_k, sk110 s, nk_dd, sr110_25 s, nk_k, sk123 s, nk_dd, sl123 s, nk_in hr (by decide), nk_ck, nI_clamp (by omega), wm.1, if_neg (nI_ge (by omega) (by omega)), sr110_26 s, nk_k, sk124 s, nk_dd, sl124 s, i28, nk_in (show 28 * r + 2 * w < 168 by omega) (by decide), nk_ck, nI_clamp (by omega), wa, nk_dd, nk_dd, nI_1, nk_in (show 28 * r + 2 * w + 1 < 168 by omega) (by decide), nk_ck, nI_clamp (by omega), wb, nk_dd, a1', nk_bd, nk_k, sk110 s1, nk_dd, b1', nk_bd, nk_k, sk110 s2, nk_dd, c1', nk_bd, nk_k, sk110 s3, nk_dd, d1', nk_bd, nI_1]
    rw [st]
    have f4 : Fs [133] M M4 := fs_trans a2 (fs_trans b2 (fs_trans c2 d2))
    obtain ⟨M5, e1, e2, e3⟩ := ih (w + 1) g M4 (by omega) (by omega) (fs_shp f4 s) ⟨by rw [fs_I f4 (by decide)]; exact wm.1, fun u hu => by rw [fs_I f4 (by decide)]; exact wm.2 u hu⟩ (fun i hi j hj => by
      rw [d3 i hi j hj, c3 i hi j hj, b3 i hi j hj, a3 i hi j hj, h i hi j hj]
      have add : ∀ x y, lI x + lI y = lI (x + y) := fun x y => (Int64.ofInt_add x y).symm
      rw [add, add, add, add, lap_s]
      refine congrArg lI ?_
      exact four_c _ (ri i = a w) (ri i = b w) (cj j = a w) (cj j = b w))
    exact ⟨M5, e1, fs_trans f4 e2, e3⟩
theorem lf_ok {N r : Nat} {a b : Nat → Nat} {W : Nat} {M : am_Mem} (hN : 100000 ≤ N) (hr : r < 6) (hn : n ≤ 8) (hW : W ≤ 14) (ha : ∀ w, w < W → a w ≤ n ∧ b w ≤ n ∧ ¬ a w = b w) (s : Shp M) (h2 : am_I M 122 r = nI (n + 1)) (wm : WrM M r a b W) : ∃ M', fn12_laysMatrix N M 110 (nI r) (-1) (-1) = some (nI n, M') ∧ Fs [133] M M' ∧ ∀ i, i < n → ∀ j, j < n → am_J M' 133 (8 * i + j) = lI (Lap a b W j i) := by
  obtain ⟨M1, a1, a2, a3⟩ := lm_z (N := N) (x1 := nI r) (x2 := -1) (x3 := -1) (x4 := nI n) 64 0 N M (by omega) (by omega) s (fun y hy => absurd hy (Nat.not_lt_zero y))
  obtain ⟨M2, b1, b2, b3⟩ := lm_w (N := N) (x2 := -1) (x3 := -1) hr hn hn hW ha (fun M x y v s hx hy => ad_f hn hx hy s) W 0 N M1 (by omega) (by omega) (fs_shp a2 s) ⟨by rw [fs_I a2 (by decide)]; exact wm.1, fun u hu => by rw [fs_I a2 (by decide)]; exact wm.2 u hu⟩ (fun i hi j hj => a3 _ (by omega))
  rw [if_pos rfl] at b1
  refine ⟨M2, ?_, fs_trans a2 b2, b3⟩
  unfold fn12_laysMatrix fn12_laysMatrix_b0 fn12_laysMatrix_b10
  have a1' : fn12_laysMatrix_b13 N N 110 (nI r) (-1) (-1) (nI n) (0 : Int32) M = _ := a1
  rw [nk_k, sk110 s, nk_dd, sr110_24 s, nk_k, sk122 s, nk_dd, sl122 s, nk_in hr (by decide), nk_ck, nI_clamp (by omega), h2, nI_s1, a1']
  exact b1
theorem lo_ok {N r p : Nat} {a b : Nat → Nat} {W : Nat} {M : am_Mem} (hN : 100000 ≤ N) (hr : r < 6) (hn : n ≤ 8) (hp : p < n) (hW : W ≤ 14) (ha : ∀ w, w < W → a w ≤ n ∧ b w ≤ n ∧ ¬ a w = b w) (s : Shp M) (h2 : am_I M 122 r = nI (n + 1)) (wm : WrM M r a b W) : ∃ M', fn12_laysMatrix N M 110 (nI r) 0 (nI p) = some (nI (n - 1), M') ∧ Fs [133] M M' ∧ ∀ i, i < n - 1 → ∀ j, j < n - 1 → am_J M' 133 (8 * i + j) = lI (skp p (Lap a b W) j (i + 1)) := by
  obtain ⟨M1, a1, a2, a3⟩ := lm_z (N := N) (x1 := nI r) (x2 := 0) (x3 := nI p) (x4 := nI n) 64 0 N M (by omega) (by omega) s (fun y hy => absurd hy (Nat.not_lt_zero y))
  obtain ⟨M2, b1, b2, b3⟩ := lm_w (N := N) (m := n - 1) (x2 := 0) (x3 := nI p) hr hn (by omega) hW ha (fun M x y v s hx hy => ad_m hn hp hx hy s) W 0 N M1 (by omega) (by omega) (fs_shp a2 s) ⟨by rw [fs_I a2 (by decide)]; exact wm.1, fun u hu => by rw [fs_I a2 (by decide)]; exact wm.2 u hu⟩ (fun i hi j hj => a3 _ (by omega))
  rw [if_neg (show ¬ (0 : Int32) = -1 by decide)] at b1
  refine ⟨M2, ?_, fs_trans a2 b2, fun i hi j hj => ?_⟩
  · unfold fn12_laysMatrix fn12_laysMatrix_b0 fn12_laysMatrix_b10
    have a1' : fn12_laysMatrix_b13 N N 110 (nI r) 0 (nI p) (nI n) (0 : Int32) M = _ := a1
    rw [nk_k, sk110 s, nk_dd, sr110_24 s, nk_k, sk122 s, nk_dd, sl122 s, nk_in hr (by decide), nk_ck, nI_clamp (by omega), h2, nI_s1, a1']
    obtain ⟨q, rfl⟩ : ∃ q, n = q + 1 := ⟨n - 1, by omega⟩
    rw [nI_s1] at b1
    exact b1
  · rw [b3 i hi j hj]
    by_cases q : j < p
    · rw [if_pos q, skp_lt _ q]
    · rw [if_neg q, skp_ge _ (by omega)]
end
