theorem geo_mr {w h : Int32} {L : List Sq} (g : Geo w.toInt h.toInt L) : Geo w.toInt h.toInt (L.map (mrQ w)) := by
  have g0 := g
  rw [geo_Z] at g ⊢
  obtain ⟨g1, g2, g3, g4, g5⟩ := g
  refine ⟨by rw [List.length_map]; exact g1, by rw [List.length_map]; exact g2, g3, g4, ?_⟩
  have e : (L.map (mrQ w)).map toZ = (L.map toZ).map (fun q => (w.toInt - q.1 - q.2.2, q.2.1, q.2.2)) := by
    rw [List.map_map, List.map_map]
    refine List.map_congr_left (fun q hq => ?_)
    obtain ⟨a1, a2, a3, a4, a5⟩ := g0.2.2.2.2.1 q hq
    show ((w - q.1 - q.2.2).toInt, q.2.1.toInt, q.2.2.toInt) = (w.toInt - q.1.toInt - q.2.2.toInt, q.2.1.toInt, q.2.2.toInt)
    have e1 : (w - q.1).toInt = w.toInt - q.1.toInt := i32_sub (by omega) (by omega)
    rw [i32_sub (by omega) (by omega), e1]
  rw [e]
  exact geoZ_mirror g5
theorem geo_qt {w h : Int32} {L : List Sq} (g : Geo w.toInt h.toInt L) : Geo h.toInt w.toInt (L.map (qtQ h)) := by
  have g0 := g
  rw [geo_Z] at g ⊢
  obtain ⟨g1, g2, g3, g4, g5⟩ := g
  refine ⟨by rw [List.length_map]; exact g1, by rw [List.length_map]; exact g2, g4, g3, ?_⟩
  have e : (L.map (qtQ h)).map toZ = (L.map toZ).map (fun q => (h.toInt - q.2.1 - q.2.2, q.1, q.2.2)) := by
    rw [List.map_map, List.map_map]
    refine List.map_congr_left (fun q hq => ?_)
    obtain ⟨a1, a2, a3, a4, a5⟩ := g0.2.2.2.2.1 q hq
    show ((h - q.2.1 - q.2.2).toInt, q.1.toInt, q.2.2.toInt) = (h.toInt - q.2.1.toInt - q.2.2.toInt, q.1.toInt, q.2.2.toInt)
    have e1 : (h - q.2.1).toInt = h.toInt - q.2.1.toInt := i32_sub (by omega) (by omega)
    rw [i32_sub (by omega) (by omega), e1]
  rw [e]
  exact geoZ_quarter g5
theorem geo_qtN : ∀ (k : Nat) (w h : Int32) (L : List Sq), Geo w.toInt h.toInt L → Geo (qsW w h k).toInt (qsW h w k).toInt (L.map (qtN h w k))
  | 0, w, h, L, g => by
    rw [show qtN h w 0 = id from rfl, List.map_id]
    exact g
  | k + 1, w, h, L, g => by
    have := geo_qtN k h w (L.map (qtQ h)) (geo_qt g)
    rw [List.map_map] at this
    have ea : qsW h w k = qsW w h (k + 1) := by
      unfold qsW
      by_cases h2 : k % 2 = 1
      · rw [if_pos h2, if_neg (by omega)]
      · rw [if_neg h2, if_pos (by omega)]
    have eb : qsW w h k = qsW h w (k + 1) := by
      unfold qsW
      by_cases h2 : k % 2 = 1
      · rw [if_pos h2, if_neg (by omega)]
      · rw [if_neg h2, if_pos (by omega)]
    rw [← ea, ← eb]
    exact this
theorem geo_turn {τ : Nat} (hτ : τ < 8) {w h : Int32} {L : List Sq} (g : Geo w.toInt h.toInt L) : Geo (if τ % 2 = 1 then h else w).toInt (if τ % 2 = 1 then w else h).toInt (L.map (tnQ τ w h)) := by
  have e : L.map (tnQ τ w h) = (L.map (fun q => if τ < 4 then q else mrQ w q)).map (qtN h w (τ % 4)) := by
    rw [List.map_map]
    exact List.map_congr_left (fun q _ => (tn_eq hτ w h q).symm)
  have g1 : Geo w.toInt h.toInt (L.map (fun q => if τ < 4 then q else mrQ w q)) := by
    by_cases h4 : τ < 4
    · simp only [h4, if_true]
      rw [List.map_id'']
      · exact g
      · exact fun _ => rfl
    · simp only [h4, if_false]
      exact geo_mr g
  have g2 := geo_qtN (τ % 4) w h _ g1
  rw [← e] at g2
  have e2 : τ % 4 % 2 = τ % 2 := by omega
  unfold qsW at g2
  rw [e2] at g2
  exact g2
theorem tn_ok {N : Nat} (hN : 100000 ≤ N) {n τ : Nat} (hτ : τ < 8) {w h : Int32} {f : Nat → Sq} (hn : n ≤ 40) {M : am_Mem} (s : Shp M) (c : RoC M n w h f) : ∃ M', fn12_turns N M 110 (nI τ) = some ((), M') ∧ Fs [140] M M' ∧ RoC M' n (if τ % 2 = 1 then h else w) (if τ % 2 = 1 then w else h) (fun k => tnQ τ w h (f k)) := by
  have e4 : nI τ - nI τ / 4 * 4 = nI (τ % 4) := pk_rem (a := τ) (d := 4) (by omega) (by decide) (by decide)
  have e2 : τ % 4 % 2 = τ % 2 := by omega
  have fin : ∀ g M1, RoC M1 n w h g → Shp M1 → (∀ k, k < n → g k = if τ < 4 then f k else mrQ w (f k)) → ∃ M', fn12_turns_b56 N 110 (nI τ) M1 = some ((), M') ∧ Fs [140] M1 M' ∧ RoC M' n (if τ % 2 = 1 then h else w) (if τ % 2 = 1 then w else h) (fun k => tnQ τ w h (f k)) := by
    intro g M1 c1 s1 hg
    obtain ⟨M', e, f1, c2⟩ := qt_n hN hn (τ % 4) N w h g M1 (by omega) (by omega) s1 c1
    refine ⟨M', ?_, f1, ?_⟩
    · unfold fn12_turns_b56
      rw [e4]
      exact e
    · unfold qsW at c2
      rw [e2] at c2
      refine roc_ext c2 (fun k hk => ?_)
      show qtN h w (τ % 4) (g k) = tnQ τ w h (f k)
      rw [hg k hk, tn_eq hτ]
  unfold fn12_turns fn12_turns_b0
  by_cases h4 : τ < 4
  · rw [if_pos (show nI τ ≤ 3 from nI_le (b := 3) (by omega) (by decide))]
    exact fin f M c s (fun k _ => (if_pos h4).symm)
  · rw [if_neg (show ¬ nI τ ≤ 3 from nI_ge (a := 3) (by omega) (by omega))]
    obtain ⟨M1, e1, f1, c1⟩ := mr_loop (N := N) (x := nI τ) (f := f) hn n 0 N M (by omega) (by omega) s (by rw [mix_0]; exact c)
    obtain ⟨M2, e2', f2, c2⟩ := fin (mix (mrQ w) f n) M1 c1 (fs_shp f1 s) (fun k hk => by rw [mix_all _ _ hk, if_neg h4])
    exact ⟨M2, by rw [show (0 : Int32) = nI 0 from rfl, e1, e2'], fs_trans f1 f2, c2⟩
theorem dvQ_1 (q : Sq) : dvQ 1 q = q := by
  unfold dvQ
  rw [Int32.div_one, Int32.div_one, Int32.div_one]
theorem ok_turn {N : Nat} (hN : 100000 ≤ N) : OK_turn N Inv := by
  intro M x y ⟨told, m, D, h⟩
  have h' := inv_thr h 0
  have hm := i_m h
  have s := i_shp h
  have mi := modI_thr (modI_inv h) 0
  have wi : ∀ M', fn12_within M' y.toInt64 0 7 = some (if 0 ≤ y ∧ y ≤ 7 then 1 else 0, M') := fun M' => wi_lit M' y 0 7
  have refu : fn11_usable M 1 x = some (0, M) → fn12_canMake (am_wI M 110 0 0) 110 x = some (0, am_wI M 110 0 0) → ∃ (v : Int32) (M1 M2 : am_Mem), fn11_turn N M 1 x y = some (v, M1) ∧ am_K M1 110 = 12 ∧ fn12_turn N M1 110 x y = some (v, M2) ∧ Inv M2 := by
    intro a b
    refine ⟨-1, M, am_wI M 110 0 0, ?_, sk110 s, ?_, told, m, D, h'⟩
    · unfold fn11_turn fn11_turn_b0 fn11_turn_b20
      rw [nk_k, sk1 s, nk_dd, a, nk_bd, if_pos rfl]
    · unfold fn12_turn fn12_turn_b0 fn12_turn_b25
      rw [nk_k, sk110 s, nk_dd, b, nk_bd, if_pos rfl]
  rcases pk_ix2 x (n := m) (by omega) with hx | ⟨i, hi, rfl⟩
  · exact refu (cu_no h hx) (mw_can_no mi hx)
  by_cases hf : (D i).1 = 1 ∨ m = 12
  · exact refu (cu_no2 h hi hf) (mw_can_no2 mi hi hf)
  have f0 : (D i).1 = 0 := by
    rcases good_01 (i_good h hi) with e | e
    · exact e
    · exact absurd (Or.inl e) hf
  have hm12 : m < 12 := by
    have : ¬ m = 12 := fun e => hf (Or.inr e)
    omega
  have t := i_til h hi
  have hu := cu_yes h hi f0 hm12
  have hc := mw_can mi hi f0 hm12
  have hl := i_len h hi
  rcases pk_ix2 y (n := 8) (by decide) with hy | ⟨τ, hτ, rfl⟩
  · refine ⟨-1, M, am_wI M 110 0 0, ?_, sk110 s, ?_, told, m, D, h'⟩
    · unfold fn11_turn fn11_turn_b0 fn11_turn_b20
      rw [nk_k, sk1 s, nk_dd, hu, nk_bd, if_neg (tilr_ne t)]
      by_cases h1 : y < 0
      · rw [if_pos h1]
      · rw [if_neg h1, if_neg (show ¬ y < 8 from Int32.not_lt.mpr (hy.resolve_left h1))]
    · unfold fn12_turn fn12_turn_b0 fn12_turn_b25
      have hn : ¬ (0 ≤ y ∧ y ≤ 7) := by
        intro ⟨a, b⟩
        rcases hy with hy | hy
        · exact absurd hy (Int32.not_lt.mpr a)
        · rw [Int32.le_iff_toInt_le] at b hy
          have e1 : (7 : Int32).toInt = 7 := rfl
          have e2 : (nI 8).toInt = 8 := rfl
          omega
      rw [nk_k, sk110 s, nk_dd, hc, nk_bd, if_neg z_1, wi, nk_bd, if_neg hn, if_pos rfl]
  have hy : 0 ≤ nI τ ∧ nI τ ≤ 7 := ⟨nI_pos' (by omega), nI_le (b := 7) (by omega) (by decide)⟩
  have geo : Geo (D i).2.1.toInt (D i).2.2.1.toInt (D i).2.2.2 := by
    rcases i_good h hi with g | g
    · rw [f0] at g; exact absurd g.1 (by decide)
    · exact g.2
  obtain ⟨Ma, ea, fa, ca⟩ := tt_ok hN (d := 89) (τ := τ) (c := 1) (by decide) hl hτ (by decide) t (drt_89 s)
  have sa := fs_shp fa s
  rw [Int32.div_one, Int32.div_one] at ca
  have eF : ttF τ 1 (D i) = fun k => tnQ τ (D i).2.1 (D i).2.2.1 (sqF (D i).2.2.2 k) := by
    funext k
    exact dvQ_1 _
  obtain ⟨Mb, u, hub, eb, pb, kb, mb⟩ := act_c hN h hm12 fa ca hl
  rw [sor_sor, eF] at pb
  have mb' := modI_thr mb 0
  obtain ⟨Mt, et, ft, rt⟩ := tk_ok hN mb' hi f0
  have st := fs_shp ft mb'.1
  obtain ⟨Mg, eg, fg, rg⟩ := tn_ok hN hτ hl st rt
  have sg := fs_shp fg st
  obtain ⟨Md, ed, vd⟩ := act_m hN h hm12 hub pb (fs_trans (fs_trans (fs_wI Mb 0 0 (by decide)) (fs_mono ft (by decide))) (fs_mono fg (by decide))) (fun j hj => by rw [fs_I fg (by decide), fs_I ft (by decide), rI_ix _ _ _ hj]) rg hl (good_made (by rw [sqF_map (tnQ τ (D i).2.1 (D i).2.2.1)]; exact geo_turn hτ geo))
  refine ⟨nI m, Mb, Md, ?_, kb, ?_, vd⟩
  · unfold fn11_turn fn11_turn_b0
    rw [nk_k, sk1 s, nk_dd, hu, nk_bd, if_neg (tilr_ne t), if_neg (Int32.not_lt.mpr hy.1), if_pos (show nI τ < 8 from nI_lt (b := 8) hτ (by decide)), nk_k, sk1 s, nk_dd, sr1_4 s, nk_k, sk89 s, nk_dd, ea, nk_bd, nk_k, sk1 sa, nk_dd, eb, nk_bd]
  · unfold fn12_turn fn12_turn_b0
    rw [nk_k, kb, nk_dd, mw_can mb' hi f0 hm12, nk_bd, if_neg z_1, wi, nk_bd, if_pos hy, if_neg z_1, nk_k, sk110 mb'.1, nk_dd, et, nk_bd, nk_k, sk110 st, nk_dd, eg, nk_bd, nk_k, sk110 sg, nk_dd, ed, nk_bd]
