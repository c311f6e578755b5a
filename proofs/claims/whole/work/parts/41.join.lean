/-- two rows behind each other -/
def catF (n : Nat) (f g : Nat → Sq) (k : Nat) : Sq := if k < n then f k else g (k - n)
theorem catF_of (n : Nat) (f g : Nat → Sq) : ∀ m, ofF (catF n f g) (n + m) = ofF f n ++ ofF g m
  | 0 => by
    rw [Nat.add_zero, show ofF g 0 = [] from rfl, List.append_nil]
    exact ofF_ext (fun k hk => if_pos hk)
  | m + 1 => by
    rw [show n + (m + 1) = n + m + 1 from rfl, ofF_succ, ofF_succ, catF_of n f g m, List.append_assoc]
    rw [show catF n f g (n + m) = g m from by
      unfold catF
      rw [if_neg (by omega), Nat.add_sub_cancel_left]]
def scF (x ox oy : Int32) (L : List Sq) (k : Nat) : Sq := (ox + qX L k * x, oy + qY L k * x, qS L k * x)
theorem scF_of (x ox oy : Int32) (L : List Sq) : ofF (scF x ox oy L) L.length = L.map (fun q => (ox + q.1 * x, oy + q.2.1 * x, q.2.2 * x)) :=
  sqF_map (fun q => (ox + q.1 * x, oy + q.2.1 * x, q.2.2 * x)) L
/-- the row while the other one comes -/
def RoD (M : am_Mem) (c n : Nat) (w h : Int32) (f : Nat → Sq) : Prop := am_I M 140 0 = nI c ∧ am_I M 140 1 = w ∧ am_I M 140 2 = h ∧ am_I M 140 3 = 0 ∧ ∀ k, k < n → am_I M 140 (4 + k) = (f k).1 ∧ am_I M 140 (44 + k) = (f k).2.1 ∧ am_I M 140 (84 + k) = (f k).2.2
theorem jn_set {M : am_Mem} {c n : Nat} {w h : Int32} {f : Nat → Sq} (d : RoD M c n w h f) (hn : n < 40) {x y z : Int32} (hq : f n = (x, y, z)) : RoD (am_wI (am_wI (am_wI M 140 (4 + n) x) 140 (44 + n) y) 140 (84 + n) z) c (n + 1) w h f := by
  obtain ⟨c1, c2, c3, c4, c5⟩ := d
  refine ⟨?_, ?_, ?_, ?_, fun k hk => ?_⟩
  · simp (disch := omega) only [rI_ix, c1]
  · simp (disch := omega) only [rI_ix, c2]
  · simp (disch := omega) only [rI_ix, c3]
  · simp (disch := omega) only [rI_ix, c4]
  · by_cases e : k = n
    · subst e
      rw [hq]
      simp (disch := omega) only [rI_ix, rI_eq, and_self]
    · obtain ⟨d1, d2, d3⟩ := c5 k (by omega)
      simp (disch := omega) only [rI_ix, d1, d2, d3, and_self]
theorem jn_32 (G : Nat) (v : Int32) : (lN G * v.toInt64).toInt32 = nI G * v := by
  rw [Int64.toInt32_mul, lN_i, Int32.toInt32_toInt64]
theorem jn_loop {N : Nat} {m o n1 G : Nat} {D : Nat → Rc} {x3 : Int32} {j12 j14 : Int64} {w h : Int32} {f : Nat → Sq} (ho : o < m) (h40 : n1 + (D o).2.2.2.length ≤ 40) (h3 : x3 = 0 ∨ x3 = 1)
    (hf : ∀ k, k < (D o).2.2.2.length → f (n1 + k) = ((if x3 = 0 then w else 0) + qX (D o).2.2.2 k * nI G, (if x3 = 0 then 0 else h) + qY (D o).2.2.2 k * nI G, qS (D o).2.2.2 k * nI G)) :
    ∀ k j fuel M, j + k = (D o).2.2.2.length → k < fuel → ModI M m D → RoD M n1 (n1 + j) w h f → ∃ M', fn12_join_b223 N fuel 110 (nI o) x3 (lN G) j12 j14 (nI n1) (nI j) M = am_bd (fn12_makes N (am_wI (am_wI (am_wI M' 140 0 (nI (n1 + (D o).2.2.2.length))) 140 1 j12.toInt32) 140 2 j14.toInt32) 110) (fun v17 M18 => some (v17, M18)) ∧ Fs [140] M M' ∧ RoD M' n1 (n1 + (D o).2.2.2.length) w h f := by
  intro k
  have j0 : am_in (0 : Int32) 124 = true := rfl
  have j1 : am_in (1 : Int32) 124 = true := rfl
  have j2 : am_in (2 : Int32) 124 = true := rfl
  have k0 : (0 : Int32).toNatClampNeg = 0 := rfl
  have k1 : (1 : Int32).toNatClampNeg = 1 := rfl
  have k2 : (2 : Int32).toNatClampNeg = 2 := rfl
  induction k with
  | zero =>
    intro j fuel M hj hfu mi d
    obtain ⟨g, rfl⟩ : ∃ g, fuel = g + 1 := ⟨fuel - 1, by omega⟩
    have : j = (D o).2.2.2.length := by omega
    subst this
    refine ⟨M, ?_, fs_refl _ _, d⟩
    have s := mi.1
    have hle : nI (D o).2.2.2.length ≤ nI (D o).2.2.2.length := nI_le (Nat.le_refl _) (by omega)
    show fn12_join_b223B N (fn12_join_b223 N g) 110 (nI o) x3 (lN G) j12 j14 (nI n1) (nI _) M = _
    unfold fn12_join_b223B
    simp only [nk_k, sk110 s, sr110_48 s, sk140 s, sl140 s, eq_self, decide_true, nk_ck, mw_n mi ho, nk_bd, hle, if_true, j0, j1, j2, k0, k1, k2, d.1, nI_add]
  | succ k ih =>
    intro j fuel M hj hfu mi d
    obtain ⟨g, rfl⟩ : ∃ g, fuel = g + 1 := ⟨fuel - 1, by omega⟩
    have hjo : j < (D o).2.2.2.length := by omega
    have s := mi.1
    have m140 : (140 : Nat) ∈ [140] := List.mem_cons_self
    have q := hf j hjo
    have e1 : (4 : Int32) + nI n1 + nI j = nI (4 + (n1 + j)) := by rw [lit_add 4 n1, nI_add, Nat.add_assoc]
    have e2 : (44 : Int32) + nI n1 + nI j = nI (44 + (n1 + j)) := by rw [lit_add 44 n1, nI_add, Nat.add_assoc]
    have e3 : (84 : Int32) + nI n1 + nI j = nI (84 + (n1 + j)) := by rw [lit_add 84 n1, nI_add, Nat.add_assoc]
    have i1 : am_in (nI (4 + (n1 + j))) 124 = true := nk_in (by omega) (by decide)
    have i2 : am_in (nI (44 + (n1 + j))) 124 = true := nk_in (by omega) (by decide)
    have i3 : am_in (nI (84 + (n1 + j))) 124 = true := nk_in (by omega) (by decide)
    have l1 : (nI (4 + (n1 + j))).toNatClampNeg = 4 + (n1 + j) := nI_clamp (by omega)
    have l2 : (nI (44 + (n1 + j))).toNatClampNeg = 44 + (n1 + j) := nI_clamp (by omega)
    have l3 : (nI (84 + (n1 + j))).toNatClampNeg = 84 + (n1 + j) := nI_clamp (by omega)
    have hle : ¬ nI (D o).2.2.2.length ≤ nI j := nI_ge hjo (by omega)
    have f1 : ∀ v, Fs [140] M (am_wI M 140 (4 + (n1 + j)) v) := fun v => fs_wI _ _ _ m140
    have m1 : ∀ v, ModI (am_wI M 140 (4 + (n1 + j)) v) m D := fun v => modI_fs (f1 v) (by decide) (by rw [rI_ne _ _ _ (by decide)]) mi
    have f2 : ∀ v u, Fs [140] M (am_wI (am_wI M 140 (4 + (n1 + j)) v) 140 (44 + (n1 + j)) u) := fun v u => fs_trans (f1 v) (fs_wI _ _ _ m140)
    have m2 : ∀ v u, ModI (am_wI (am_wI M 140 (4 + (n1 + j)) v) 140 (44 + (n1 + j)) u) m D := fun v u => modI_fs (f2 v u) (by decide) (by rw [rI_ne _ _ _ (by decide), rI_ne _ _ _ (by decide)]) mi
    have f3 : ∀ v u z, Fs [140] M (am_wI (am_wI (am_wI M 140 (4 + (n1 + j)) v) 140 (44 + (n1 + j)) u) 140 (84 + (n1 + j)) z) := fun v u z => fs_trans (f2 v u) (fs_wI _ _ _ m140)
    have m3 : ∀ v u z, ModI (am_wI (am_wI (am_wI M 140 (4 + (n1 + j)) v) 140 (44 + (n1 + j)) u) 140 (84 + (n1 + j)) z) m D := fun v u z => modI_fs (f3 v u z) (by decide) (by rw [rI_ne _ _ _ (by decide), rI_ne _ _ _ (by decide), rI_ne _ _ _ (by decide)]) mi
    rcases h3 with rfl | rfl
    · simp only [if_true] at q
      obtain ⟨M', e, f4, d4⟩ := ih (j + 1) g _ (by omega) (by omega) (m3 _ _ _) (jn_set d (by omega) q)
      refine ⟨M', ?_, fs_trans (f3 _ _ _) f4, d4⟩
      rw [← e]
      show fn12_join_b223B N (fn12_join_b223 N g) 110 (nI o) 0 (lN G) j12 j14 (nI n1) (nI j) M = _
      unfold fn12_join_b223B fn12_join_b273 fn12_join_b316
      simp (disch := omega) only [nk_k, qK_wI, qL_wI, qR_wI, sk110 s, sr110_48 s, sk140 s, sl140 s, eq_self, decide_true, nk_ck, mw_n mi ho, nk_bd, hle, if_false, if_true, j1, k1, d.2.1, mw_X mi ho hjo, e1, e2, e3, i1, i2, i3, l1, l2, l3, mw_Y (m1 _) ho hjo, mw_S (m2 _ _) ho hjo, jn_32, nI_1, Int32.mul_comm (nI G), Int32.add_comm _ w, Int32.add_zero, Int32.zero_add]
    · have z1 : ¬ ((1 : Int32) = 0) := z_1
      simp only [z1, if_false] at q
      obtain ⟨M', e, f4, d4⟩ := ih (j + 1) g _ (by omega) (by omega) (m3 _ _ _) (jn_set d (by omega) q)
      refine ⟨M', ?_, fs_trans (f3 _ _ _) f4, d4⟩
      rw [← e]
      show fn12_join_b223B N (fn12_join_b223 N g) 110 (nI o) 1 (lN G) j12 j14 (nI n1) (nI j) M = _
      unfold fn12_join_b223B fn12_join_b273 fn12_join_b316
      simp (disch := omega) only [nk_k, qK_wI, qL_wI, qR_wI, sk110 s, sr110_48 s, sk140 s, sl140 s, eq_self, decide_true, nk_ck, mw_n mi ho, nk_bd, hle, if_false, z1, j2, k2, d.2.2.1, rI_ix, mw_X mi ho hjo, e1, e2, e3, i1, i2, i3, l1, l2, l3, mw_Y (m1 _) ho hjo, mw_S (m2 _ _) ho hjo, jn_32, nI_1, Int32.mul_comm (nI G), Int32.add_comm _ h, Int32.add_zero, Int32.zero_add]
