theorem i124 (r z : Nat) : (124 : Int32) * nI r + nI z = nI (124 * r + z) := by
  rw [show (124 : Int32) * nI r = nI (124 * r) from (Int32.ofNat_mul 124 _).symm, lw_add]
/-- a drawn number with its sign, as the reference holds it -/
def snL (L : List (Nat × Nat)) (pr k : Nat) : Int32 := if gN L k = (if k = 0 then pr else gN L (k - 1)) then nI (vN L k) else -(nI (vN L k))
theorem sgG_at : ∀ (L : List (Nat × Nat)) (pr k : Nat) (h : k < (sgG pr L).length), (sgG pr L)[k] = snL L pr k
  | [], _, k, h => absurd h (Nat.not_lt_zero k)
  | (v, g) :: l, pr, 0, _ => by
    show (if g = pr then nI v else -(nI v)) = snL ((v, g) :: l) pr 0
    rfl
  | (v, g) :: l, pr, k + 1, h => by
    have h' : k < (sgG g l).length := by
      have : k + 1 < (sgG g l).length + 1 := h
      omega
    show (sgG g l)[k] = _
    rw [sgG_at l g k h']
    unfold snL
    rw [if_neg (show ¬ k + 1 = 0 by omega), Nat.add_sub_cancel]
    have e1 : gN ((v, g) :: l) (k + 1) = gN l k := rfl
    have e2 : vN ((v, g) :: l) (k + 1) = vN l k := rfl
    rw [e1, e2]
    cases k with
    | zero => rw [if_pos rfl]; rfl
    | succ k => rw [if_neg (show ¬ k + 1 = 0 by omega)]; rfl
/-- drawn numbers, as the reference holds them -/
def LsM (M : am_Mem) (r : Nat) (L : List (Nat × Nat)) : Prop := am_I M 114 r = nI L.length ∧ ∀ k, k < L.length → am_I M 116 (29 * r + k) = snL L 99 k
section
variable {L : List (Nat × Nat)}
theorem sn_s (hg : ∀ k, k < L.length → gN L k < 25) {k : Nat} (hk : k < L.length) (h : isS L k) : snL L 99 k = -(nI (vN L k)) := by
  unfold snL
  rw [if_neg]
  intro e
  rcases h with z | z
  · rw [if_pos z] at e
    have := hg k hk
    omega
  · by_cases q : k = 0
    · rw [if_pos q] at e
      have := hg k hk
      omega
    · rw [if_neg q] at e; exact z e
theorem sn_n {k : Nat} (h : ¬ isS L k) : snL L 99 k = nI (vN L k) := by
  unfold snL
  have k0 : ¬ k = 0 := fun z => h (Or.inl z)
  rw [if_neg k0, if_pos (Classical.byContradiction (fun c => h (Or.inr c)))]
theorem neg_lt {v : Nat} (h1 : 1 ≤ v) (h2 : v < 10000) : (-(nI v) : Int32) < 0 ∧ (-(nI v) : Int32) ≤ 0 := by
  have e : (-(nI v) : Int32) = iI (-(v : Int)) := (Int32.ofInt_neg (v : Int)).symm
  have z : (0 : Int32) = iI 0 := rfl
  rw [e, z, ii_lt (by omega) (by decide), Int32.le_iff_toInt_le, ii_toInt (by omega), ii_toInt (by decide)]
  omega
end
section
variable {N r : Nat} {L : List (Nat × Nat)} {W : Nat}
theorem gm_l (hr : r < 6) (h : LsOk L) (hg : ∀ k, k < L.length → gN L k < 25) {k : Nat} {M : am_Mem} (s : Shp M) (lm : LsM M r L) : ∀ m j fuel x, j + m = L.length → k < j → gN L (j - 1) = gN L k → m < fuel → fn12_groupSum_b18 N fuel 110 (nI r) (nI x) (nI j) M = some (nI (x + rsF L (gN L k) m j), M) := by
  have l24 := h.2.1
  intro m
  induction m with
  | zero =>
    intro j fuel x hj hkj eg hf
    obtain ⟨g, rfl⟩ : ∃ g, fuel = g + 1 := ⟨fuel - 1, by omega⟩
    show fn12_groupSum_b18B N (fn12_groupSum_b18 N g) 110 (nI r) (nI x) (nI j) M = _
    unfold fn12_groupSum_b18B fn12_groupSum_b65
    rw [nk_k, sk110 s, nk_dd, sr110_14 s, nk_k, sk114 s, nk_dd, sl114 s, nk_in hr (by decide), nk_ck, nI_clamp (by omega), lm.1, if_pos (nI_le (by omega) (by omega))]
    rfl
  | succ m ih =>
    intro j fuel x hj hkj eg hf
    obtain ⟨g, rfl⟩ : ∃ g, fuel = g + 1 := ⟨fuel - 1, by omega⟩
    have jl : j < L.length := by omega
    have vb := h.2.2 j jl
    have e : rsF L (gN L k) (m + 1) j = if gN L j = gN L k then vN L j + rsF L (gN L k) m (j + 1) else 0 := rfl
    show fn12_groupSum_b18B N (fn12_groupSum_b18 N g) 110 (nI r) (nI x) (nI j) M = _
    unfold fn12_groupSum_b18B fn12_groupSum_b65 fn12_groupSum_b59
    rw [nk_k, sk110 s, nk_dd, sr110_14 s, nk_k, sk114 s, nk_dd, sl114 s, nk_in hr (by decide), nk_ck, nI_clamp (by omega), lm.1, if_neg (nI_ge (by omega) (by omega)), sr110_16 s, nk_k, sk116 s, nk_dd, sl116 s, i29, nk_in (show 29 * r + j < 174 by omega) (by decide), nk_ck, nI_clamp (by omega), lm.2 j jl, e]
    by_cases q : isS L j
    · have q' : ¬ gN L j = gN L k := by
        rcases q with z | z
        · omega
        · rw [eg] at z; exact z
      rw [sn_s hg jl q, if_pos (neg_lt vb.1 vb.2).2, if_neg q']
      rfl
    · have q' : gN L j = gN L k := by
        rw [← eg]
        exact Classical.byContradiction (fun c => q (Or.inr c))
      rw [sn_n q, if_neg (show ¬ nI (vN L j) ≤ (0 : Int32) from nI_ge (a := 0) (by omega) (by omega)), if_pos q', nk_ck, lw_add, nI_1, ih (j + 1) g (x + vN L j) (by omega) (by omega) (by rw [Nat.add_sub_cancel]; exact q') (by omega), Nat.add_assoc]
theorem gm_ok (hN : 100000 ≤ N) (hr : r < 6) (h : LsOk L) (hg : ∀ k, k < L.length → gN L k < 25) {k : Nat} (hk : k < L.length) {M : am_Mem} (s : Shp M) (lm : LsM M r L) (hS : isS L k) : fn12_groupSum N M 110 (nI r) (nI k) = some (nI (grS L k), M) := by
  have l24 := h.2.1
  have go := gm_l (N := N) (k := k) hr h hg s lm (L.length - (k + 1)) (k + 1) N (vN L k) (by omega) (by omega) (by rw [Nat.add_sub_cancel]) (by omega)
  rw [← gr_eq hk] at go
  unfold fn12_groupSum fn12_groupSum_b0 fn12_groupSum_b13
  rw [nk_k, sk110 s, nk_dd, sr110_16 s, nk_k, sk116 s, nk_dd, sl116 s, i29, nk_in (show 29 * r + k < 174 by omega) (by decide), nk_ck, nI_clamp (by omega), lm.2 k hk, sn_s hg hk hS, Int32.neg_neg, nI_1]
  exact go
end
theorem pt_m {M : am_Mem} {r z : Nat} {v : Int32} (s : Shp M) (hr : r < 12) (hz : z < 124) : fn12_put M 110 (nI r) (nI z) v = some ((), am_wI M 117 (124 * r + z) v) := by
  unfold fn12_put fn12_put_b0
  rw [nk_k, sk110 s, nk_dd, sr110_17 s, nk_k, sk117 s, nk_dd, sl117 s, i124, nk_in (show 124 * r + z < 1488 by omega) (by decide), nk_ck, nI_clamp (by omega)]
/-- what stays of the rows before -/
def RwB (M M' : am_Mem) (r : Nat) : Prop := Fs [117] M M' ∧ ∀ z, z < 124 * r → am_I M' 117 z = am_I M 117 z
theorem rwb_trans {M M1 M2 : am_Mem} {r : Nat} (h : RwB M M1 r) (g : RwB M1 M2 r) : RwB M M2 r := ⟨fs_trans h.1 g.1, fun z hz => (g.2 z hz).trans (h.2 z hz)⟩
theorem fa_l {N r : Nat} (hr : r < 6) : ∀ m z fuel M, z + m = 124 → m < fuel → Shp M → (∀ y, y < z → am_I M 117 (124 * r + y) = 0) → ∃ M', fn12_fails_b2 N fuel 110 (nI r) (nI z) M = some ((), M') ∧ RwB M M' r ∧ ∀ y, y < 124 → am_I M' 117 (124 * r + y) = if y = 3 then 1 else 0 := by
  intro m
  induction m with
  | zero =>
    intro z fuel M hz hf s h
    obtain ⟨g, rfl⟩ : ∃ g, fuel = g + 1 := ⟨fuel - 1, by omega⟩
    refine ⟨am_wI M 117 (124 * r + 3) 1, ?_, ⟨fs_wI _ _ _ List.mem_cons_self, fun y hy => by rw [rI_ix _ _ _ (by omega)]⟩, fun y hy => ?_⟩
    · show fn12_fails_b2B N (fn12_fails_b2 N g) 110 (nI r) (nI z) M = _
      unfold fn12_fails_b2B
      rw [if_pos (show (124 : Int32) ≤ nI z from nI_le (a := 124) (by omega) (by omega)), nk_k, sk110 s, nk_dd, show fn12_put M 110 (nI r) (3 : Int32) (1 : Int32) = _ from pt_m (z := 3) s (by omega) (by decide), nk_bd]
    · rw [rI_if]
      by_cases e : y = 3
      · rw [if_pos (by omega), if_pos e]
      · rw [if_neg (by omega), if_neg e]; exact h y (by omega)
  | succ m ih =>
    intro z fuel M hz hf s h
    obtain ⟨g, rfl⟩ : ∃ g, fuel = g + 1 := ⟨fuel - 1, by omega⟩
    have st : fn12_fails_b2 N (g + 1) 110 (nI r) (nI z) M = fn12_fails_b2 N g 110 (nI r) (nI (z + 1)) (am_wI M 117 (124 * r + z) 0) := by
      show fn12_fails_b2B N (fn12_fails_b2 N g) 110 (nI r) (nI z) M = _
      unfold fn12_fails_b2B
      rw [if_neg (show ¬ (124 : Int32) ≤ nI z from nI_ge (b := 124) (by omega) (by decide)), nk_k, sk110 s, nk_dd, pt_m s (by omega) (by omega), nk_bd, nI_1]
    rw [st]
    have f1 : RwB M (am_wI M 117 (124 * r + z) 0) r := ⟨fs_wI _ _ _ List.mem_cons_self, fun y hy => by rw [rI_ix _ _ _ (by omega)]⟩
    obtain ⟨M', a1, a2, a3⟩ := ih (z + 1) g _ (by omega) (by omega) (fs_shp f1.1 s) (fun y hy => by
      rw [rI_if]
      by_cases e : y = z
      · rw [if_pos (by omega)]
      · rw [if_neg (by omega)]; exact h y (by omega))
    exact ⟨M', a1, rwb_trans f1 a2, a3⟩
theorem fa_m {N r : Nat} {M : am_Mem} (hN : 100000 ≤ N) (hr : r < 6) (s : Shp M) : ∃ M', fn12_fails N M 110 (nI r) = some ((), M') ∧ RwB M M' r ∧ RowR M' 117 (124 * r) (1, 0, 0, []) := by
  obtain ⟨M', a1, a2, a3⟩ := fa_l (N := N) hr 124 0 N M (by omega) (by omega) s (fun y hy => absurd hy (Nat.not_lt_zero y))
  refine ⟨M', a1, a2, ?_, ?_, ?_, ?_, fun k hk => absurd hk (Nat.not_lt_zero k), fun k hk => absurd hk (Nat.not_lt_zero k), fun k hk => absurd hk (Nat.not_lt_zero k)⟩
  · exact a3 0 (by decide)
  · exact a3 1 (by decide)
  · exact a3 2 (by decide)
  · exact a3 3 (by decide)
/-- squares put down in a row of the reference -/
def SqM (M : am_Mem) (r k : Nat) (f : Nat → Sq) : Prop := am_I M 117 (124 * r + 3) = 0 ∧ ∀ j, j < k → am_I M 117 (124 * r + (4 + j)) = (f j).1 ∧ am_I M 117 (124 * r + (44 + j)) = (f j).2.1 ∧ am_I M 117 (124 * r + (84 + j)) = (f j).2.2
theorem sq_m {N r k lv W x : Nat} {O : Ou} {M : am_Mem} {f : Nat → Sq} (hN : 100000 ≤ N) (hr : r < 6) (hk : k < 40) (hl : lv < 42) (hO : O.length ≤ 42) (ho : OkO O W) (hd : ∀ k, k < O.length → dpO O k < 2147483648) (s : Shp M) (o : OuM M lv O) (q : SqM M r k f) (ef : f k = sqI (sqO O x)) : ∃ M', fn12_squares N M 110 (nI r) (nI k) (nI lv) (nI x) = some ((), M') ∧ RwB M M' r ∧ SqM M' r (k + 1) f := by
  have na := na_m (N := N) hN s hl hO ho o hd
  have nl := nt_lt ho
  have s1 : Shp (am_wI M 117 (124 * r + (4 + k)) (nI (bgO O (ntO O)))) := fs_shp (fs_wI (W := [117]) _ _ _ List.mem_cons_self) s
  have s2 : Shp (am_wI (am_wI M 117 (124 * r + (4 + k)) (nI (bgO O (ntO O)))) 117 (124 * r + (44 + k)) (nI (dpO O (ntO O)))) := fs_shp (fs_wI (W := [117]) _ _ _ List.mem_cons_self) s1
  have j1 : am_in (nI (42 * lv + ntO O)) 1764 = true := nk_in (by omega) (by decide)
  have c1 : (nI (42 * lv + ntO O)).toNatClampNeg = 42 * lv + ntO O := nI_clamp (by omega)
  refine ⟨am_wI (am_wI (am_wI M 117 (124 * r + (4 + k)) (nI (bgO O (ntO O)))) 117 (124 * r + (44 + k)) (nI (dpO O (ntO O)))) 117 (124 * r + (84 + k)) (nI x), ?_, ⟨fs_trans (fs_trans (fs_wI _ _ _ List.mem_cons_self) (fs_wI _ _ _ List.mem_cons_self)) (fs_wI _ _ _ List.mem_cons_self), fun z hz => by rw [rI_ix _ _ _ (by omega), rI_ix _ _ _ (by omega), rI_ix _ _ _ (by omega)]⟩, ?_, fun j hj => ?_⟩
  · unfold fn12_squares fn12_squares_b0 fn12_squares_b12
    have p1 : fn12_put M 110 (nI r) (4 + nI k) (nI (bgO O (ntO O))) = some ((), am_wI M 117 (124 * r + (4 + k)) (nI (bgO O (ntO O)))) := by rw [show (4 : Int32) + nI k = nI (4 + k) from lw_add 4 k]; exact pt_m s (by omega) (by omega)
    have p2 : fn12_put (am_wI M 117 (124 * r + (4 + k)) (nI (bgO O (ntO O)))) 110 (nI r) (44 + nI k) (nI (dpO O (ntO O))) = some ((), am_wI (am_wI M 117 (124 * r + (4 + k)) (nI (bgO O (ntO O)))) 117 (124 * r + (44 + k)) (nI (dpO O (ntO O)))) := by rw [show (44 : Int32) + nI k = nI (44 + k) from lw_add 44 k]; exact pt_m s1 (by omega) (by omega)
    have p3 : fn12_put (am_wI (am_wI M 117 (124 * r + (4 + k)) (nI (bgO O (ntO O)))) 117 (124 * r + (44 + k)) (nI (dpO O (ntO O)))) 110 (nI r) (84 + nI k) (nI x) = some ((), am_wI (am_wI (am_wI M 117 (124 * r + (4 + k)) (nI (bgO O (ntO O)))) 117 (124 * r + (44 + k)) (nI (dpO O (ntO O)))) 117 (124 * r + (84 + k)) (nI x)) := by rw [show (84 : Int32) + nI k = nI (84 + k) from lw_add 84 k]; exact pt_m s2 (by omega) (by omega)
    rw [nk_k, sk110 s, nk_dd, na, nk_bd, i42, nk_k, sk110 s, nk_dd, sr110_33 s, nk_k, sk131 s, nk_dd, sl131 s, j1, nk_ck, c1, (o.2 _ nl).1, p1, nk_bd, nk_k, sk110 s1, nk_dd, sr110_34 s1, nk_k, sk132 s1, nk_dd, sl132 s1, j1, nk_ck, rI_ne _ _ _ (show ¬ 132 = 117 by decide), (o.2 _ nl).2, p2, nk_bd, nk_k, sk110 s2, nk_dd, p3, nk_bd]
  · rw [rI_ix _ _ _ (by omega), rI_ix _ _ _ (by omega), rI_ix _ _ _ (by omega)]; exact q.1
  · by_cases e : j = k
    · rw [e, ef]
      refine ⟨?_, ?_, ?_⟩
      · rw [rI_ix _ _ _ (by omega), rI_ix _ _ _ (by omega), rI_eq]; rfl
      · rw [rI_ix _ _ _ (by omega), rI_eq]; rfl
      · rw [rI_eq]; rfl
    · have := q.2 j (by omega)
      rw [rI_ix _ _ _ (by omega), rI_ix _ _ _ (by omega), rI_ix _ _ _ (by omega), rI_ix _ _ _ (by omega), rI_ix _ _ _ (by omega), rI_ix _ _ _ (by omega), rI_ix _ _ _ (by omega), rI_ix _ _ _ (by omega), rI_ix _ _ _ (by omega)]
      exact this
section
variable {N r : Nat} {L : List (Nat × Nat)} {W : Nat}
def dmW : List Nat := [110, 117, 125, 130, 131, 132]
/-- what drawing comes to, the reference -/
def DmE (M : am_Mem) (r : Nat) (L : List (Nat × Nat)) (W : Nat) : Prop := (∃ k, k < L.length ∧ flA L W k ∧ (∀ y, y < k → ¬ flA L W y) ∧ am_I M 125 r = nI k ∧ RowR M 117 (124 * r) (1, 0, 0, [])) ∨ ((∀ y, y < L.length → ¬ flA L W y) ∧ am_I M 125 r = nI L.length ∧ (((dO L W L.length).length = 1 ∧ RowR M 117 (124 * r) (0, nI W, nI (dpO (dO L W L.length) (ntO (dO L W L.length))), ofF (dF L W) L.length)) ∨ (¬ (dO L W L.length).length = 1 ∧ RowR M 117 (124 * r) (1, 0, 0, []))))
/-- what drawing leaves, the reference -/
def DmB (M M' : am_Mem) (r : Nat) : Prop := Fs dmW M M' ∧ (∀ y, ¬ y = 35 → am_I M' 110 y = am_I M 110 y) ∧ am_J M' 110 = am_J M 110 ∧ (∀ z, z < 124 * r → am_I M' 117 z = am_I M 117 z) ∧ ∀ u, ¬ u = r → am_I M' 125 u = am_I M 125 u
theorem dmb_trans {M M1 M2 : am_Mem} (h : DmB M M1 r) (g : DmB M1 M2 r) : DmB M M2 r :=
  ⟨fs_trans h.1 g.1, fun y hy => (g.2.1 y hy).trans (h.2.1 y hy), g.2.2.1.trans h.2.2.1, fun z hz => (g.2.2.2.1 z hz).trans (h.2.2.2.1 z hz), fun u hu => (g.2.2.2.2 u hu).trans (h.2.2.2.2 u hu)⟩
theorem dmb_rw {M M1 : am_Mem} (h : RwB M M1 r) : DmB M M1 r :=
  ⟨fs_mono h.1 (by decide), fun y _ => by rw [fs_I h.1 (by decide)], fs_J h.1 (by decide), h.2, fun u _ => by rw [fs_I h.1 (by decide)]⟩
theorem dmb_lv {M M1 : am_Mem} {lv : Nat} (h : LvB M M1 lv) : DmB M M1 r :=
  ⟨fs_mono h.1 (by decide), fun y _ => by rw [fs_I h.1 (by decide)], fs_J h.1 (by decide), fun z _ => by rw [fs_I h.1 (by decide)], fun u _ => by rw [fs_I h.1 (by decide)]⟩
theorem dmb_25 (M : am_Mem) (v : Int32) : DmB M (am_wI M 125 r v) r :=
  ⟨fs_wI _ _ _ (by decide), fun y _ => by rw [rI_ne _ _ _ (by decide)], by rw [qJ_wI], fun z _ => by rw [rI_ne _ _ _ (by decide)], fun u hu => by rw [rI_ix _ _ _ hu]⟩
theorem dm_l (hN : 100000 ≤ N) (hr : r < 6) (h : LsOk L) (hW : W = grS L 0) (hg : ∀ k, k < L.length → gN L k < 25) : ∀ m k fuel M, k + m = L.length → m < fuel → Shp M → LsM M r L → (∀ y, y < k → ¬ flA L W y) → am_I M 110 35 = nI W → OuM M k (dO L W k) → SqM M r k (dF L W) → ∃ M', fn12_draws_b19 N fuel 110 (nI r) (nI L.length) (nI k) M = some ((), M') ∧ DmB M M' r ∧ DmE M' r L W := by
  have l24 := h.2.1
  have wl : W ≤ 240000 := by
    have := rsF_le h (gN L 0) (L.length - 0) 0 (by omega)
    rw [hW]
    unfold grS
    omega
  intro m
  induction m with
  | zero =>
    intro k fuel M hk hf s lm nf w o q
    obtain ⟨g, rfl⟩ : ∃ g, fuel = g + 1 := ⟨fuel - 1, by omega⟩
    have e : k = L.length := by omega
    subst e
    obtain ⟨⟨i1, i2, i3, i4, i5, i6⟩, _, _⟩ := dr_inv h hW L.length (Nat.le_refl _) nf
    have b1 := dmb_25 (r := r) M (nI L.length)
    have s1 := fs_shp b1.1 s
    have e0 : am_I (am_wI M 125 r (nI L.length)) 125 r = nI L.length := rI_eq _ _ _ _
    have o1 : ∀ y, ¬ y = 125 → am_I (am_wI M 125 r (nI L.length)) y = am_I M y := fun y hy => by rw [rI_ne _ _ _ hy]
    have st : fn12_draws_b19 N (g + 1) 110 (nI r) (nI L.length) (nI L.length) M = (if nI (dO L W L.length).length ≤ (1 : Int32) then am_bd (fn12_put (am_wI M 125 r (nI L.length)) 110 (nI r) (0 : Int32) (nI L.length)) (fun v6 M7 => am_ck (am_k M7 110 12) (am_bd (fn12_put M7 110 (nI r) (1 : Int32) (am_I M7 110 35)) (fun v10 M11 => am_ck (am_k M11 110 12) (am_ck (am_k M11 (am_R M11 110 34) 14) (am_ck (am_in ((42 : Int32) * nI L.length) (am_L M11 (am_R M11 110 34))) (am_bd (fn12_put M11 110 (nI r) (2 : Int32) (am_I M11 (am_R M11 110 34) ((42 : Int32) * nI L.length).toNatClampNeg)) (fun v16 M17 => some ((), M17)))))))) else am_bd (fn12_fails N (am_wI M 125 r (nI L.length)) 110 (nI r)) (fun v19 M20 => some ((), M20))) := by
      show fn12_draws_b19B N (fn12_draws_b19 N g) 110 (nI r) (nI L.length) (nI L.length) M = _
      unfold fn12_draws_b19B
      rw [if_pos (nI_le (Nat.le_refl _) (by omega)), nk_k, sk110 s, nk_dd, sr110_27 s, nk_k, sk125 s, nk_dd, sl125 s, nk_in hr (by decide), nk_ck, sr110_32 s, nk_k, sk130 s, nk_dd, sl130 s, nk_in (show L.length < 42 by omega) (by decide), nk_ck, nI_clamp (show r < 2147483648 by omega), nI_clamp (show L.length < 2147483648 by omega), rI_ne _ _ _ (show ¬ 130 = 125 by decide), o.1]
    rw [st]
    revert b1 s1 e0 o1
    generalize am_wI M 125 r (nI L.length) = M1
    intro b1 s1 e0 o1
    by_cases z : (dO L W L.length).length = 1
    · rw [if_pos (show nI (dO L W L.length).length ≤ (1 : Int32) by rw [z]; decide)]
      have nt0 : ntO (dO L W L.length) = 0 := by
        have := nt_lt i1
        omega
      have sa : Shp (am_wI M1 117 (124 * r + 0) (nI L.length)) := fs_shp (fs_wI (W := [117]) _ _ _ List.mem_cons_self) s1
      have sb : Shp (am_wI (am_wI M1 117 (124 * r + 0) (nI L.length)) 117 (124 * r + 1) (nI W)) := fs_shp (fs_wI (W := [117]) _ _ _ List.mem_cons_self) sa
      have p1 : fn12_put M1 110 (nI r) (0 : Int32) (nI L.length) = _ := pt_m (z := 0) s1 (by omega) (by decide)
      have p2 : fn12_put (am_wI M1 117 (124 * r + 0) (nI L.length)) 110 (nI r) (1 : Int32) (nI W) = _ := pt_m (z := 1) sa (by omega) (by decide)
      have p3 : fn12_put (am_wI (am_wI M1 117 (124 * r + 0) (nI L.length)) 117 (124 * r + 1) (nI W)) 110 (nI r) (2 : Int32) (nI (dpO (dO L W L.length) 0)) = _ := pt_m (z := 2) sb (by omega) (by decide)
      have w1 : am_I (am_wI M1 117 (124 * r + 0) (nI L.length)) 110 35 = nI W := by rw [rI_ne _ _ _ (by decide), o1 110 (by decide)]; exact w
      have i42' : (42 : Int32) * nI L.length = nI (42 * L.length) := (Int32.ofNat_mul 42 _).symm
      have d1 : am_I (am_wI (am_wI M1 117 (124 * r + 0) (nI L.length)) 117 (124 * r + 1) (nI W)) 132 (42 * L.length) = nI (dpO (dO L W L.length) 0) := by
        rw [rI_ne _ _ _ (by decide), rI_ne _ _ _ (by decide), o1 132 (by decide)]
        have := (o.2 0 i1.1).2
        exact this
      have rb : RwB M1 (am_wI (am_wI (am_wI M1 117 (124 * r + 0) (nI L.length)) 117 (124 * r + 1) (nI W)) 117 (124 * r + 2) (nI (dpO (dO L W L.length) 0))) r := ⟨fs_trans (fs_trans (fs_wI _ _ _ List.mem_cons_self) (fs_wI _ _ _ List.mem_cons_self)) (fs_wI _ _ _ List.mem_cons_self), fun z hz => by rw [rI_ix _ _ _ (by omega), rI_ix _ _ _ (by omega), rI_ix _ _ _ (by omega)]⟩
      rw [p1, nk_bd, nk_k, sk110 sa, nk_dd, w1, p2, nk_bd, nk_k, sk110 sb, nk_dd, sr110_34 sb, nk_k, sk132 sb, nk_dd, sl132 sb, i42', nk_in (show 42 * L.length < 1764 by omega) (by decide), nk_ck, nI_clamp (by omega), d1, p3, nk_bd]
      refine ⟨_, rfl, dmb_trans b1 (dmb_rw rb), Or.inr ⟨nf, by rw [fs_I rb.1 (by decide)]; exact e0, Or.inl ⟨z, ?_⟩⟩⟩
      have q1 : ∀ y, y < 124 → ¬ y < 3 → am_I (am_wI (am_wI (am_wI M1 117 (124 * r + 0) (nI L.length)) 117 (124 * r + 1) (nI W)) 117 (124 * r + 2) (nI (dpO (dO L W L.length) 0))) 117 (124 * r + y) = am_I M 117 (124 * r + y) := fun y _ hy => by rw [rI_ix _ _ _ (by omega), rI_ix _ _ _ (by omega), rI_ix _ _ _ (by omega), o1 117 (by decide)]
      refine ⟨?_, ?_, ?_, ?_, fun j hj => ?_, fun j hj => ?_, fun j hj => ?_⟩
      · rw [ofF_len, rI_ix _ _ _ (by omega), rI_ix _ _ _ (by omega)]; exact rI_eq _ _ _ _
      · rw [rI_ix _ _ _ (by omega), rI_eq]
      · rw [rI_eq, nt0]
      · rw [q1 3 (by decide) (by decide)]; exact q.1
      · rw [ofF_len] at hj
        rw [q1 (4 + j) (by omega) (by omega), (q.2 j hj).1, ofF_X _ hj]
      · rw [ofF_len] at hj
        rw [q1 (44 + j) (by omega) (by omega), (q.2 j hj).2.1, ofF_Y _ hj]
      · rw [ofF_len] at hj
        rw [q1 (84 + j) (by omega) (by omega), (q.2 j hj).2.2, ofF_S _ hj]
    · have := i1.1
      rw [if_neg (show ¬ nI (dO L W L.length).length ≤ (1 : Int32) from nI_ge (a := 1) (by omega) (by omega))]
      obtain ⟨M2, c1, c2, c3⟩ := fa_m (N := N) hN hr s1
      rw [c1, nk_bd]
      exact ⟨M2, rfl, dmb_trans b1 (dmb_rw c2), Or.inr ⟨nf, by rw [fs_I c2.1 (by decide)]; exact e0, Or.inr ⟨z, c3⟩⟩⟩
  | succ m ih =>
    intro k fuel M hk hf s lm nf w o q
    obtain ⟨g, rfl⟩ : ∃ g, fuel = g + 1 := ⟨fuel - 1, by omega⟩
    have kl : k < L.length := by omega
    obtain ⟨⟨i1, i2, i3, i4, i5, i6⟩, i7, _⟩ := dr_inv h hW k (by omega) nf
    have nl := nt_lt i1
    have vb := h.2.2 k kl
    have dpn : dpO (dO L W k) (ntO (dO L W k)) ≤ k * 10000 := i5 _ nl
    have hd : ∀ j, j < (dO L W k).length → dpO (dO L W k) j < 2147483648 := fun j hj => by
      have : dpO (dO L W k) j ≤ k * 10000 := i5 j hj
      omega
    have cont : ∀ M1, Shp M1 → LsM M1 r L → am_I M1 110 35 = nI W → OuM M1 k (dO L W k) → SqM M1 r k (dF L W) → ¬ flA L W k → ∃ M', fn12_draws_b79 N (fn12_draws_b19 N g) 110 (nI r) (nI L.length) (nI k) (nI (vN L k)) M1 = some ((), M') ∧ DmB M1 M' r ∧ DmE M' r L W := by
      intro M1 s1 lm1 w1 o1 q1 nfk
      obtain ⟨v1, v2⟩ := i7 kl nfk
      obtain ⟨M2, a1, a2, a3⟩ := sq_m (N := N) (x := vN L k) hN hr (by omega) (show k < 42 by omega) (by omega) i1 hd s1 o1 q1 rfl
      have s2 := fs_shp a2.1 s1
      have o2 : OuM M2 k (dO L W k) := by
        unfold OuM
        rw [fs_I a2.1 (show 130 ∉ [117] by decide), fs_I a2.1 (show 131 ∉ [117] by decide), fs_I a2.1 (show 132 ∉ [117] by decide)]
        exact o1
      have w2 : am_I M2 110 35 = nI W := by rw [fs_I a2.1 (by decide)]; exact w1
      obtain ⟨M3, b1, b2, b3⟩ := lo_m (N := N) (B := 1000000) hN (show k + 1 < 42 by omega) (by omega) i1 (by omega) v1 v2 (fun j hj => by have := i5 j hj; omega) (by omega) (by decide) s2 w2 o2
      have s3 := fs_shp b2.1 s2
      have t13 : DmB M1 M3 r := dmb_trans (dmb_rw a2) (dmb_lv b2)
      have f13 : Fs [117, 130, 131, 132] M1 M3 := fs_trans (fs_mono a2.1 (by decide)) (fs_mono b2.1 (by decide))
      obtain ⟨M', c1, c2, c3⟩ := ih (k + 1) g M3 (by omega) (by omega) s3 ⟨by rw [fs_I f13 (by decide)]; exact lm1.1, fun y hy => by rw [fs_I f13 (by decide)]; exact lm1.2 y hy⟩ (fun y hy => by
        by_cases e : y = k
        · rw [e]; exact nfk
        · exact nf y (by omega)) (by rw [fs_I b2.1 (by decide)]; exact w2) b3 ⟨by rw [fs_I b2.1 (by decide)]; exact a3.1, fun j hj => by rw [fs_I b2.1 (by decide)]; exact a3.2 j hj⟩
      refine ⟨M', ?_, dmb_trans t13 c2, c3⟩
      unfold fn12_draws_b79
      rw [nk_k, sk110 s1, nk_dd, a1, nk_bd, nk_k, sk110 s2, nk_dd, b1, nk_bd, nI_1]
      exact c1
    have st : fn12_draws_b19 N (g + 1) 110 (nI r) (nI L.length) (nI k) M = fn12_draws_b37 N (fn12_draws_b19 N g) 110 (nI r) (nI L.length) (nI k) (snL L 99 k) M := by
      show fn12_draws_b19B N (fn12_draws_b19 N g) 110 (nI r) (nI L.length) (nI k) M = _
      unfold fn12_draws_b19B
      rw [if_neg (nI_ge (by omega) (by omega)), nk_k, sk110 s, nk_dd, sr110_16 s, nk_k, sk116 s, nk_dd, sl116 s, i29, nk_in (show 29 * r + k < 174 by omega) (by decide), nk_ck, nI_clamp (by omega), lm.2 k kl]
    rw [st]
    unfold fn12_draws_b37
    by_cases hS : isS L k
    · have n0 : ¬ (0 : Int32) ≤ -(nI (vN L k)) := Int32.not_le.mpr (neg_lt vb.1 vb.2).1
      have b1 := dmb_25 (r := r) M (nI k)
      have s1 := fs_shp b1.1 s
      have e0 : am_I (am_wI M 125 r (nI k)) 125 r = nI k := rI_eq _ _ _ _
      have o1 : ∀ y, ¬ y = 125 → am_I (am_wI M 125 r (nI k)) y = am_I M y := fun y hy => by rw [rI_ne _ _ _ hy]
      rw [sn_s hg kl hS, if_neg n0, nk_k, sk110 s, nk_dd, sr110_27 s, nk_k, sk125 s, nk_dd, sl125 s, nk_in hr (by decide), nk_ck, nI_clamp (by omega)]
      revert b1 s1 e0 o1
      generalize am_wI M 125 r (nI k) = M1
      intro b1 s1 e0 o1
      have lm1 : LsM M1 r L := ⟨by rw [o1 114 (by decide)]; exact lm.1, fun y hy => by rw [o1 116 (by decide)]; exact lm.2 y hy⟩
      have ou1 : OuM M1 k (dO L W k) := by
        unfold OuM
        rw [o1 130 (by decide), o1 131 (by decide), o1 132 (by decide)]
        exact o
      have w1 : am_I M1 110 35 = nI W := by rw [o1 110 (by decide)]; exact w
      have sq1 : SqM M1 r k (dF L W) := ⟨by rw [o1 117 (by decide)]; exact q.1, fun j hj => by rw [o1 117 (by decide)]; exact q.2 j hj⟩
      have gs := gm_ok (N := N) hN hr h hg kl s1 lm1 hS
      have na := na_m (N := N) hN s1 (show k < 42 by omega) (by omega) i1 ou1 hd
      have wo : fn12_widthOf M1 110 (nI k) (nI (ntO (dO L W k))) = some (nI (wdO (dO L W k) W), M1) := wo_m s1 (show k < 42 by omega) (by omega) i1 (by omega) ou1 w1 nl
      have gl : grS L k ≤ 240000 := by
        have := rsF_le h (gN L k) (L.length - k) k (by omega)
        unfold grS
        omega
      have be : wdO (dO L W k) W ≤ W := by
        have := bg_en i1 nl
        unfold wdO
        omega
      rw [gs, nk_bd, nk_k, sk110 s1, nk_dd, na, nk_bd, nk_k, sk110 s1, nk_dd, wo, nk_bd]
      by_cases z : grS L k = wdO (dO L W k) W
      · rw [if_pos (congrArg nI z), Int32.neg_neg]
        obtain ⟨M', c1, c2, c3⟩ := cont M1 s1 lm1 w1 ou1 sq1 (fun c => c.2 z)
        exact ⟨M', c1, dmb_trans b1 c2, c3⟩
      · rw [if_neg (fun e => z (nI_inj (by omega) (by omega) e))]
        obtain ⟨M2, c1, c2, c3⟩ := fa_m (N := N) hN hr s1
        rw [nk_k, sk110 s1, nk_dd, c1, nk_bd]
        exact ⟨M2, rfl, dmb_trans b1 (dmb_rw c2), Or.inl ⟨k, kl, ⟨hS, z⟩, nf, by rw [fs_I c2.1 (by decide)]; exact e0, c3⟩⟩
    · have p0 : (0 : Int32) ≤ nI (vN L k) := nI_le (a := 0) (Nat.zero_le _) (by omega)
      rw [sn_n hS, if_pos p0]
      exact cont M s lm w o q (fun c => hS c.1)
/-- a rectangle drawn, the reference -/
theorem dm_ok {M : am_Mem} (hN : 100000 ≤ N) (hr : r < 6) (h : LsOk L) (hg : ∀ k, k < L.length → gN L k < 25) (s : Shp M) (lm : LsM M r L) (z3 : am_I M 117 (124 * r + 3) = 0) : ∃ M', fn12_draws N M 110 (nI r) = some ((), M') ∧ DmB M M' r ∧ DmE M' r L (grS L 0) := by
  have p0 := h.1
  have l24 := h.2.1
  have gs := gm_ok (N := N) hN hr h hg (show 0 < L.length by omega) s lm (Or.inl rfl)
  obtain ⟨M1, a1, a2⟩ := op_m s (nI (grS L 0))
  obtain ⟨b1, b2, b3, b4, b5, b6, b7⟩ := a2
  have s1 := fs_shp b1 s
  have t1 : DmB M M1 r := ⟨fs_mono b1 (by decide), b3, b4, fun z _ => by rw [fs_I b1 (by decide)], fun u _ => by rw [fs_I b1 (by decide)]⟩
  obtain ⟨M', c1, c2, c3⟩ := dm_l (N := N) hN hr h rfl hg L.length 0 N M1 (by omega) (by omega) s1 ⟨by rw [fs_I b1 (by decide)]; exact lm.1, fun y hy => by rw [fs_I b1 (by decide)]; exact lm.2 y hy⟩ (fun y hy => absurd hy (Nat.not_lt_zero y)) b2 ⟨b5, fun k hk => by
    have : k < 1 := hk
    rw [show k = 0 by omega]
    exact ⟨b6, b7⟩⟩ ⟨by rw [fs_I b1 (by decide)]; exact z3, fun j hj => absurd hj (Nat.not_lt_zero j)⟩
  refine ⟨M', ?_, dmb_trans t1 c2, c3⟩
  unfold fn12_draws fn12_draws_b0 fn12_draws_b7
  have gs' : fn12_groupSum N M 110 (nI r) (0 : Int32) = _ := gs
  rw [nk_k, sk110 s, nk_dd, sr110_14 s, nk_k, sk114 s, nk_dd, sl114 s, nk_in hr (by decide), nk_ck, nI_clamp (by omega), lm.1, nk_dd, gs', nk_bd, nk_k, sk110 s, nk_dd, a1, nk_bd]
  exact c1
end
