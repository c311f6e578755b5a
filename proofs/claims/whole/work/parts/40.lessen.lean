theorem i32_divT {x : Int32} {g : Nat} (h0 : 0 ≤ x.toInt) (hg : 1 ≤ g) (hl : g < 2 ^ 31) : (x / nI g).toInt = x.toInt / (g : Int) := by
  have hne : nI g ≠ -1 := fun e => by
    have := congrArg Int32.toInt e
    rw [nI_toInt hl, show (-1 : Int32).toInt = -1 from rfl] at this
    omega
  rw [Int32.toInt_div_of_ne_right _ _ hne, nI_toInt hl, Int.tdiv_eq_ediv_of_nonneg h0]
/-- all divided by what divides all sizes -/
theorem geo_div {w h : Int32} {L : List Sq} (g : Geo w.toInt h.toInt L) : Geo (w / nI (gcL L)).toInt (h / nI (gcL L)).toInt (L.map (dvQ (nI (gcL L)))) := by
  have hp := geo_pos g
  have hg := gcL_pos g
  have hlt := gcL_lt L
  have g0 := g
  rw [geo_Z] at g ⊢
  obtain ⟨g1, g2, g3, g4, g5⟩ := g
  have ew : (w / nI (gcL L)).toInt = w.toInt / (gcL L : Int) := i32_divT (by omega) hg hlt
  have eh : (h / nI (gcL L)).toInt = h.toInt / (gcL L : Int) := i32_divT (by omega) hg hlt
  have dv : ∀ q ∈ L, ((gcL L : Nat) : Int) ∣ q.2.2.toInt := by
    intro q hq
    obtain ⟨k, hk, rfl⟩ := List.getElem_of_mem hq
    have h1 := gdN_dvd (szN L) L.length k hk
    have h2 := szN_eq g0 hk
    have e : qS L k = (L[k]).2.2 := by unfold qS; rw [q_getD hk]
    rw [← e, h2.1, nI_toInt (szN_lt L k)]
    exact Int.ofNat_dvd.mpr h1
  obtain ⟨d1, d2, d3⟩ := g0.2.2.2.2.2.2.2 _ dv
  have gp : (0 : Int) < (gcL L : Int) := by omega
  have le1 : ∀ {x : Int}, 0 ≤ x → x / (gcL L : Int) ≤ x := fun {x} hx => Int.ediv_le_self _ hx
  rw [ew, eh]
  refine ⟨by rw [List.length_map]; exact g1, by rw [List.length_map]; exact g2, Int.le_trans (le1 (by omega)) g3, Int.le_trans (le1 (by omega)) g4, ?_⟩
  refine geoZ_div (c := (gcL L : Int)) (by omega) ?_ (Int.ediv_mul_cancel d2).symm (Int.ediv_mul_cancel d3).symm g5
  rw [List.map_map, List.map_map]
  refine List.map_congr_left (fun q hq => ?_)
  obtain ⟨a1, a2, a3, a4, a5⟩ := g0.2.2.2.2.1 q hq
  show (q.1.toInt, q.2.1.toInt, q.2.2.toInt) = ((q.1 / nI (gcL L)).toInt * (gcL L : Int), (q.2.1 / nI (gcL L)).toInt * (gcL L : Int), (q.2.2 / nI (gcL L)).toInt * (gcL L : Int))
  rw [i32_divT a1 hg hlt, i32_divT a2 hg hlt, i32_divT (by omega) hg hlt, Int.ediv_mul_cancel (d1 q hq).1, Int.ediv_mul_cancel (d1 q hq).2, Int.ediv_mul_cancel (dv q hq)]
theorem ls_gcd {N : Nat} (hN : 100000 ≤ N) {M : am_Mem} {w h : Int32} {L : List Sq} {a b : Int} (s : Shp M) (g : Geo a b L) (c : RoC M L.length w h (sqF L)) : ∀ k j fuel, j + k = L.length → k < fuel → ∃ f', fn12_lessen_b25 N fuel 110 (lN (gdN (szN L) j)) (nI j) M = fn12_lessen_b25 N (f' + 1) 110 (lN (gcL L)) (nI L.length) M := by
  have hl := g.2.1
  intro k
  induction k with
  | zero =>
    intro j fuel hj hf
    obtain ⟨f, rfl⟩ : ∃ f, fuel = f + 1 := ⟨fuel - 1, by omega⟩
    have : j = L.length := by omega
    subst this
    exact ⟨f, rfl⟩
  | succ k ih =>
    intro j fuel hj hf
    obtain ⟨f, rfl⟩ : ∃ f, fuel = f + 1 := ⟨fuel - 1, by omega⟩
    have hj' : j < L.length := by omega
    obtain ⟨f', e⟩ := ih (j + 1) f (by omega) (by omega)
    refine ⟨f', ?_⟩
    rw [← e, gdN]
    have e3 := lit_add 84 j
    have i3 : am_in (nI (84 + j)) 124 = true := nk_in (by omega) (by decide)
    have l3 : (nI (84 + j)).toNatClampNeg = 84 + j := nI_clamp (by omega)
    have b3 : am_I M 140 (84 + j) = nI (szN L j) := (c.2.2.2.2 j hj').2.2.trans (szN_eq g hj').1
    show fn12_lessen_b25B N (fn12_lessen_b25 N f) 110 _ (nI j) M = _
    unfold fn12_lessen_b25B
    rw [nk_k, sk110 s, nk_dd, sr110_48 s, nk_k, sk140 s, nk_dd, sl140 s, show am_in 0 124 = true from rfl, nk_ck, show ((0 : Int32).toNatClampNeg) = 0 from rfl, c.1, if_neg (nI_ge hj' (by omega)), e3, i3, nk_ck, l3, b3, cm_nI hN M (gdN_lt (by decide) (szN_lt L) j) (szN_lt L j), nk_bd, nI_1]
theorem ls_div {N : Nat} {n : Nat} {w h : Int32} {f : Nat → Sq} {j2 : Int64} (hn : n ≤ 40) (hz : ¬ j2.toInt32 = 0) : ∀ k j fuel M, j + k = n → k < fuel → Shp M → RoC M n w h (mix (dvQ j2.toInt32) f j) → ∃ M', fn12_lessen_b83 N fuel 110 j2 (nI j) M = am_bd (fn12_makes N M' 110) (fun v4 M5 => some (v4, M5)) ∧ Fs [140] M M' ∧ RoC M' n w h (mix (dvQ j2.toInt32) f n) := by
  intro k
  have ez : decide (¬ j2.toInt32 = 0) = true := decide_eq_true hz
  induction k with
  | zero =>
    intro j fuel M hj hf s c
    obtain ⟨g, rfl⟩ : ∃ g, fuel = g + 1 := ⟨fuel - 1, by omega⟩
    have : j = n := by omega
    subst this
    refine ⟨M, ?_, fs_refl _ _, c⟩
    show fn12_lessen_b83B N (fn12_lessen_b83 N g) 110 j2 (nI j) M = _
    unfold fn12_lessen_b83B
    rw [nk_k, sk110 s, nk_dd, sr110_48 s, nk_k, sk140 s, nk_dd, sl140 s, show am_in 0 124 = true from rfl, nk_ck, show ((0 : Int32).toNatClampNeg) = 0 from rfl, c.1, if_pos (nI_le (by omega) (by omega))]
  | succ k ih =>
    intro j fuel M hj hf s c
    obtain ⟨g, rfl⟩ : ∃ g, fuel = g + 1 := ⟨fuel - 1, by omega⟩
    have hjn : j < n := by omega
    have b := c.2.2.2.2 j hjn
    rw [mix_at] at b
    obtain ⟨b1, b2, b3⟩ := b
    have m : (140 : Nat) ∈ [140] := List.mem_cons_self
    have f0 : Fs [140] M (am_wI (am_wI (am_wI M 140 (4 + j) ((f j).1 / j2.toInt32)) 140 (44 + j) ((f j).2.1 / j2.toInt32)) 140 (84 + j) ((f j).2.2 / j2.toInt32)) := fs_trans (fs_trans (fs_wI _ _ _ m) (fs_wI _ _ _ m)) (fs_wI _ _ _ m)
    obtain ⟨M', e, f1, cc⟩ := ih (j + 1) g _ (by omega) (by omega) (fs_shp f0 s) (by
      rw [mix_succ]
      refine roc_set c hjn hn (fun i h1 h2 h3 => by rw [rI_ix _ _ _ h3, rI_ix _ _ _ h2, rI_ix _ _ _ h1]) ?_ ?_ (rI_eq _ _ _ _)
      · rw [rI_ix _ _ _ (by omega), rI_ix _ _ _ (by omega), rI_eq]; rfl
      · rw [rI_ix _ _ _ (by omega), rI_eq]; rfl)
    refine ⟨M', ?_, fs_trans f0 f1, cc⟩
    rw [← e]
    have e1 := lit_add 4 j
    have e2 := lit_add 44 j
    have e3 := lit_add 84 j
    have i1 : am_in (nI (4 + j)) 124 = true := nk_in (by omega) (by decide)
    have i2 : am_in (nI (44 + j)) 124 = true := nk_in (by omega) (by decide)
    have i3 : am_in (nI (84 + j)) 124 = true := nk_in (by omega) (by decide)
    have j0 : am_in (0 : Int32) 124 = true := rfl
    have l0 : (0 : Int32).toNatClampNeg = 0 := rfl
    have l1 : (nI (4 + j)).toNatClampNeg = 4 + j := nI_clamp (by omega)
    have l2 : (nI (44 + j)).toNatClampNeg = 44 + j := nI_clamp (by omega)
    have l3 : (nI (84 + j)).toNatClampNeg = 84 + j := nI_clamp (by omega)
    have hle : ¬ nI n ≤ nI j := nI_ge hjn (by omega)
    show fn12_lessen_b83B N (fn12_lessen_b83 N g) 110 j2 (nI j) M = _
    unfold fn12_lessen_b83B
    simp (disch := omega) only [nk_k, sk110 s, sr110_48 s, sk140 s, sl140 s, eq_self, decide_true, nk_ck, ez, j0, l0, c.1, hle, if_false, e1, e2, e3, i1, i2, i3, l1, l2, l3, rI_ix, b1, b2, b3, nI_1]
theorem ok_lessen {N : Nat} (hN : 100000 ≤ N) : OK_lessen N Inv := by
  intro M x ⟨told, m, D, h⟩
  have h' := inv_thr h 0
  have hm := i_m h
  have s := i_shp h
  have mi := modI_thr (modI_inv h) 0
  have refu : fn11_usable M 1 x = some (0, M) → fn12_canMake (am_wI M 110 0 0) 110 x = some (0, am_wI M 110 0 0) → ∃ (v : Int32) (M1 M2 : am_Mem), fn11_lessen N M 1 x = some (v, M1) ∧ am_K M1 110 = 12 ∧ fn12_lessen N M1 110 x = some (v, M2) ∧ Inv M2 := by
    intro a b
    refine ⟨-1, M, am_wI M 110 0 0, ?_, sk110 s, ?_, told, m, D, h'⟩
    · unfold fn11_lessen fn11_lessen_b0
      rw [nk_k, sk1 s, nk_dd, a, nk_bd, if_pos rfl]
    · unfold fn12_lessen fn12_lessen_b0
      rw [nk_k, sk110 s, nk_dd, b, nk_bd, if_pos rfl]
  rcases pk_ix2 x (n := m) (by omega) with hx | ⟨i, hi, rfl⟩
  · exact refu (cu_no h hx) (mw_can_no mi hx)
  by_cases hf : (D i).1 = 1 ∨ m = 12
  · exact refu (cu_no2 h hi hf) (mw_can_no2 mi hi hf)
  have f0 : (D i).1 = 0 := by
    rcases good_01 (i_good h hi) with e | e
    · exact e
    · exact absurd (Or.inl e) hf
  have hm12 : m < 12 := by
    have : ¬ m = 12 := fun e => hf (Or.inr e)
    omega
  have t := i_til h hi
  have hu := cu_yes h hi f0 hm12
  have hc := mw_can mi hi f0 hm12
  have hl := i_len h hi
  have geo : Geo (D i).2.1.toInt (D i).2.2.1.toInt (D i).2.2.2 := by
    rcases i_good h hi with g | g
    · rw [f0] at g; exact absurd g.1 (by decide)
    · exact g.2
  have hg := gcL_pos geo
  have hgl := gcL_lt (D i).2.2.2
  have hz : ¬ nI (gcL (D i).2.2.2) = 0 := nI_ne0 hg hgl
  obtain ⟨Ma, ea, fa, ca⟩ := tt_ok hN (d := 89) (τ := 0) (c := nI (gcL (D i).2.2.2)) (by decide) hl (by decide) hz t (drt_89 s)
  have sa := fs_shp fa s
  have eF : ttF 0 (nI (gcL (D i).2.2.2)) (D i) = fun k => dvQ (nI (gcL (D i).2.2.2)) (sqF (D i).2.2.2 k) := rfl
  obtain ⟨Mb, u, hub, eb, pb, kb, mb⟩ := act_c hN h hm12 fa ca hl
  rw [sor_sor, eF, show ttW 0 (D i) = (D i).2.1 from rfl, show ttH 0 (D i) = (D i).2.2.1 from rfl] at pb
  have mb' := modI_thr mb 0
  obtain ⟨Mt, et, ft, rt⟩ := tk_ok hN mb' hi f0
  have st := fs_shp ft mb'.1
  obtain ⟨f', eg⟩ := ls_gcd hN st geo rt (D i).2.2.2.length 0 N (by omega) (by omega)
  have m140 : (140 : Nat) ∈ [140] := List.mem_cons_self
  have fw : Fs [140] Mt (am_wI (am_wI Mt 140 1 ((D i).2.1 / nI (gcL (D i).2.2.2))) 140 2 ((D i).2.2.1 / nI (gcL (D i).2.2.2))) := fs_trans (fs_wI _ _ _ m140) (fs_wI _ _ _ m140)
  have li : (lN (gcL (D i).2.2.2)).toInt32 = nI (gcL (D i).2.2.2) := lN_i _
  obtain ⟨Mg, em, fg, rg⟩ := ls_div (N := N) (j2 := lN (gcL (D i).2.2.2)) (w := (D i).2.1 / nI (gcL (D i).2.2.2)) (h := (D i).2.2.1 / nI (gcL (D i).2.2.2)) (f := sqF (D i).2.2.2) hl (by rw [li]; exact hz) (D i).2.2.2.length 0 N _ (by omega) (by omega) (fs_shp fw st) (by
    rw [mix_0]
    obtain ⟨c1, c2, c3, c4, c5⟩ := rt
    refine ⟨?_, ?_, rI_eq _ _ _ _, ?_, fun k hk => ?_⟩
    · simp (disch := omega) only [rI_ix, c1]
    · simp (disch := omega) only [rI_ix, rI_eq]
    · simp (disch := omega) only [rI_ix, c4]
    · obtain ⟨d1, d2, d3⟩ := c5 k hk
      simp (disch := omega) only [rI_ix, d1, d2, d3, and_self])
  rw [li] at rg
  have sg := fs_shp fg (fs_shp fw st)
  obtain ⟨Md, ed, vd⟩ := act_m hN h hm12 hub pb (fs_trans (fs_trans (fs_trans (fs_wI Mb 0 0 (by decide)) (fs_mono ft (by decide))) (fs_mono fw (by decide))) (fs_mono fg (by decide))) (fun j hj => by rw [fs_I fg (by decide), fs_I fw (by decide), fs_I ft (by decide), rI_ix _ _ _ hj]) (roc_ext rg (fun k hk => mix_all _ _ hk)) hl (good_made (by rw [sqF_map (dvQ (nI (gcL (D i).2.2.2)))]; exact geo_div geo))
  refine ⟨nI m, Mb, Md, ?_, kb, ?_, vd⟩
  · unfold fn11_lessen fn11_lessen_b0
    rw [nk_k, sk1 s, nk_dd, hu, nk_bd, if_neg (tilr_ne t), nk_k, sk1 s, nk_dd, k_til t, nk_ck, gc_cOk hN t geo, nk_bd, sr1_4 s, nk_k, sk89 s, nk_dd, show (0 : Int32) = nI 0 from rfl, ea, nk_bd, nk_k, sk1 sa, nk_dd, eb, nk_bd]
  · have ez : decide (¬ nI (gcL (D i).2.2.2) = 0) = true := decide_eq_true hz
    have hle : nI (D i).2.2.2.length ≤ nI (D i).2.2.2.length := nI_le (Nat.le_refl _) (by omega)
    have j0 : am_in (0 : Int32) 124 = true := rfl
    have j1 : am_in (1 : Int32) 124 = true := rfl
    have j2 : am_in (2 : Int32) 124 = true := rfl
    have k0 : (0 : Int32).toNatClampNeg = 0 := rfl
    have k1 : (1 : Int32).toNatClampNeg = 1 := rfl
    have k2 : (2 : Int32).toNatClampNeg = 2 := rfl
    have n12 : ¬ (2 : Nat) = 1 := by decide
    unfold fn12_lessen fn12_lessen_b0
    rw [nk_k, kb, nk_dd, mw_can mb' hi f0 hm12, nk_bd, if_neg z_1, nk_k, sk110 mb'.1, nk_dd, et, nk_bd, show fn12_lessen_b25 N N 110 0 0 Mt = _ from eg]
    show fn12_lessen_b25B N (fn12_lessen_b25 N f') 110 (lN (gcL (D i).2.2.2)) (nI (D i).2.2.2.length) Mt = _
    unfold fn12_lessen_b25B
    simp only [nk_k, sk110 st, sr110_48 st, sk140 st, sl140 st, eq_self, decide_true, nk_ck, j0, j1, j2, k0, k1, k2, rt.1, rt.2.1, hle, if_true, li, ez, rI_ix _ _ _ n12, rt.2.2.1]
    rw [show fn12_lessen_b83 N N 110 (lN (gcL (D i).2.2.2)) 0 _ = _ from em, ed, nk_bd]
