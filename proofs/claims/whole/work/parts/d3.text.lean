section
variable {N : Nat} {D : List Ld}
def tqW : List Nat := 120 :: tmW
theorem ta_l (hN : 100000 ≤ N) (hD : D.length ≤ 6) (ok : ∀ d ∈ D, LdOk d) : ∀ m r fuel M, r + m = D.length → m < fuel → Shp M → (∀ j (hj : j < D.length), LdM M j (D[j])) → am_I M 110 18 = nI D.length → (∀ j (hj : j < D.length), j < r → ∃ q, LmQ M j (D[j]) q ∧ Good q) → ∃ M', fn12_takesOver_b18 N fuel 110 (nI r) M = some ((), M') ∧ Fs tqW M M' ∧ (∀ y, ¬ y = 19 → ¬ y = 35 → ¬ y = 38 → ¬ y = 39 → am_I M' 110 y = am_I M 110 y) ∧ am_I M' 110 19 = 0 ∧ am_I M' 120 0 = 0 ∧ am_I M' 120 1 = 0 ∧ ∀ j (hj : j < D.length), ∃ q, LmQ M' j (D[j]) q ∧ Good q := by
  intro m
  induction m with
  | zero =>
    intro r fuel M hr hf s lm e18 h
    obtain ⟨g, rfl⟩ : ∃ g, fuel = g + 1 := ⟨fuel - 1, by omega⟩
    have e : r = D.length := by omega
    subst e
    have f1 : Fs [110, 120] M (am_wI (am_wI (am_wI M 110 19 0) 120 0 ((0 : Int32) &&& 1)) 120 1 ((0 : Int32) &&& 1)) := fs_trans (fs_trans (fs_wI _ _ _ (by decide)) (fs_wI _ _ _ (by decide))) (fs_wI _ _ _ (by decide))
    refine ⟨am_wI (am_wI (am_wI M 110 19 0) 120 0 ((0 : Int32) &&& 1)) 120 1 ((0 : Int32) &&& 1), ?_, fs_mono f1 (by decide), fun y y1 _ _ _ => by rw [rI_ne _ _ _ (by decide), rI_ne _ _ _ (by decide), rI_ix _ _ _ y1], by rw [rI_ne _ _ _ (by decide), rI_ne _ _ _ (by decide), rI_eq], by rw [rI_ix _ _ _ (by decide), rI_eq]; rfl, by rw [rI_eq]; rfl, fun j hj => ?_⟩
    · show fn12_takesOver_b18B N (fn12_takesOver_b18 N g) 110 (nI D.length) M = _
      unfold fn12_takesOver_b18B
      rw [nk_k, sk110 s, nk_dd, e18, if_pos (nI_le (Nat.le_refl _) (by omega)), sr110_22 s, nk_k, sk120 s, nk_dd, sl120 s, show am_in (0 : Int32) 2 = true from rfl, nk_ck, show am_in (1 : Int32) 2 = true from rfl, nk_ck]
      rfl
    · obtain ⟨q, ⟨h1, h2, h3⟩, hg⟩ := h j hj hj
      refine ⟨q, ⟨rowr_fr (good_len hg) (fun k hk => by rw [fs_I f1 (by decide)]) h1, by rw [fs_I f1 (by decide)]; exact h2, ?_⟩, hg⟩
      rcases h3 with ⟨a1, k, a2, a3⟩ | ⟨a1, a2, a3, a4, a5, a6, a7⟩
      · exact Or.inl ⟨a1, k, a2, by rw [fs_I f1 (by decide)]; exact a3⟩
      · refine Or.inr ⟨a1, a2, by rw [fs_J f1 (by decide)]; exact a3, by rw [fs_I f1 (by decide)]; exact a4, by rw [fs_I f1 (by decide)]; exact a5, by rw [fs_I f1 (by decide)]; exact a6, fun z => ?_⟩
        obtain ⟨f2, f3⟩ := a7 z
        exact ⟨fun q hq => by rw [fs_J f1 (by decide)]; exact f2 q hq, fun x hx => by rw [fs_J f1 (by decide)]; exact f3 x hx⟩
  | succ m ih =>
    intro r fuel M hr hf s lm e18 h
    obtain ⟨g, rfl⟩ : ∃ g, fuel = g + 1 := ⟨fuel - 1, by omega⟩
    have rl : r < D.length := by omega
    obtain ⟨q, M1, a1, a2, a3, a4⟩ := tl_m (N := N) (k18 := fn12_takesOver_b18 N g) hN (show r < 6 by omega) s (ok _ (List.getElem_mem rl)) (lm r rl)
    have st : fn12_takesOver_b18 N (g + 1) 110 (nI r) M = fn12_takesOver_b18 N g 110 (nI (r + 1)) M1 := by
      show fn12_takesOver_b18B N (fn12_takesOver_b18 N g) 110 (nI r) M = _
      unfold fn12_takesOver_b18B
      rw [nk_k, sk110 s, nk_dd, e18, if_neg (nI_ge (by omega) (by omega)), a1]
    rw [st]
    obtain ⟨M', b1, b2, b3, b4, b5, b6, b7⟩ := ih (r + 1) g M1 (by omega) (by omega) (fs_shp a2.1 s) (fun j hj => by
      have := lm j hj
      unfold LdM at this ⊢
      rw [fs_I a2.1 (show 113 ∉ tmW by decide), fs_I a2.1 (show 114 ∉ tmW by decide), fs_I a2.1 (show 115 ∉ tmW by decide), fs_I a2.1 (show 116 ∉ tmW by decide)]
      exact this) (by rw [a2.2.1 18 (by decide) (by decide) (by decide)]; exact e18) (fun j hj hjr => by
      by_cases e : j = r
      · subst e
        exact ⟨q, a3, a4⟩
      · obtain ⟨q', h1, h2⟩ := h j hj (by omega)
        exact ⟨q', lmq_keep a2 (by omega) (ok _ (List.getElem_mem hj)) (good_len h2) h1, h2⟩)
    exact ⟨M', b1, fs_trans (fs_mono a2.1 (by decide)) b2, fun y y1 y2 y3 y4 => (b3 y y1 y2 y3 y4).trans (a2.2.1 y y2 y3 y4), b4, b5, b6, b7⟩
theorem ta_ok {M : am_Mem} (hN : 100000 ≤ N) (hD : D.length ≤ 6) (ok : ∀ d ∈ D, LdOk d) (s : Shp M) (lm : ∀ j (hj : j < D.length), LdM M j (D[j])) (e11 : am_I M 110 11 = nI D.length) : ∃ M', fn12_takesOver N M 110 = some ((), M') ∧ Fs tqW M M' ∧ (∀ y, ¬ y = 18 → ¬ y = 40 → ¬ y = 19 → ¬ y = 35 → ¬ y = 38 → ¬ y = 39 → am_I M' 110 y = am_I M 110 y) ∧ am_I M' 110 18 = nI D.length ∧ am_I M' 110 40 = nI D.length ∧ am_I M' 110 19 = 0 ∧ am_I M' 120 0 = 0 ∧ am_I M' 120 1 = 0 ∧ ∀ j (hj : j < D.length), ∃ q, LmQ M' j (D[j]) q ∧ Good q := by
  have f1 : Fs [110] M (am_wI (am_wI M 110 18 (nI D.length)) 110 40 (nI D.length)) := fs_trans (fs_wI _ _ _ List.mem_cons_self) (fs_wI _ _ _ List.mem_cons_self)
  obtain ⟨M', b1, b2, b3, b4, b5, b6, b7⟩ := ta_l (N := N) hN hD ok D.length 0 N (am_wI (am_wI M 110 18 (nI D.length)) 110 40 (nI D.length)) (by omega) (by omega) (fs_shp f1 s) (fun j hj => by
    have := lm j hj
    unfold LdM at this ⊢
    rw [fs_I f1 (show 113 ∉ [110] by decide), fs_I f1 (show 114 ∉ [110] by decide), fs_I f1 (show 115 ∉ [110] by decide), fs_I f1 (show 116 ∉ [110] by decide)]
    exact this) (by rw [rI_ix _ _ _ (by decide), rI_eq]) (fun j hj h0 => absurd h0 (Nat.not_lt_zero j))
  refine ⟨M', ?_, fs_trans (fs_mono f1 (by decide)) b2, fun y y1 y2 y3 y4 y5 y6 => by rw [b3 y y3 y4 y5 y6, rI_ix _ _ _ y2, rI_ix _ _ _ y1], by rw [b3 18 (by decide) (by decide) (by decide) (by decide), rI_ix _ _ _ (by decide), rI_eq], by rw [b3 40 (by decide) (by decide) (by decide) (by decide), rI_eq], b4, b5, b6, b7⟩
  unfold fn12_takesOver fn12_takesOver_b0
  rw [nk_k, sk110 s, nk_dd, e11, rI_ix _ _ _ (show ¬ 11 = 18 by decide), e11]
  exact b1
/-- the reference takes a text -/
theorem tx_m {T : Nat → Int32} {M : am_Mem} {x f : Nat} (hN : 100000 ≤ N) (hf : f ≤ 600) (hx : x ≤ f) (hB : ∀ y, y < x → isB (T y)) (s : Shp M) (tp : ∀ j, j < x → am_I M 111 j = T j) (e2 : am_I M 110 2 = nI f) : ((rdR T x 7 [] [] 0).1 = 0 ∧ ∃ M1, fn12_text N M 110 (nI x) = some (nI (rdR T x 7 [] [] 0).2.2.length, M1) ∧ Fs (112 :: 113 :: 114 :: 115 :: 116 :: tqW) M M1 ∧ am_I M1 110 2 = nI 0 ∧ am_I M1 110 42 = am_I M 110 42 ∧ am_I M1 110 18 = nI (rdR T x 7 [] [] 0).2.2.length ∧ am_I M1 110 40 = nI (rdR T x 7 [] [] 0).2.2.length ∧ am_I M1 110 19 = 0 ∧ am_I M1 120 0 = 0 ∧ am_I M1 120 1 = 0 ∧ ∀ j (hj : j < (rdR T x 7 [] [] 0).2.2.length), ∃ q, LmQ M1 j ((rdR T x 7 [] [] 0).2.2[j]) q ∧ Good q) ∨ (¬ (rdR T x 7 [] [] 0).1 = 0 ∧ ∃ M1, fn12_text N M 110 (nI x) = some (-2 - (rdR T x 7 [] [] 0).1, M1) ∧ Fs [110, 112, 113, 114, 115, 116] M M1 ∧ am_I M1 110 2 = nI 0 ∧ am_I M1 110 42 = am_I M 110 42 ∧ am_I M1 110 18 = am_I M 110 18 ∧ am_I M1 110 19 = am_I M 110 19 ∧ am_I M1 110 40 = am_I M 110 40) := by
  have f0 : Fs [110] M (am_wI (am_wI (am_wI (am_wI (am_wI (am_wI M 110 0 0) 110 2 0) 110 3 (nI x)) 110 5 0) 110 9 0) 110 11 0) := fs_trans (fs_trans (fs_trans (fs_trans (fs_trans (fs_wI _ _ _ List.mem_cons_self) (fs_wI _ _ _ List.mem_cons_self)) (fs_wI _ _ _ List.mem_cons_self)) (fs_wI _ _ _ List.mem_cons_self)) (fs_wI _ _ _ List.mem_cons_self)) (fs_wI _ _ _ List.mem_cons_self)
  have x2 : am_I (am_wI (am_wI (am_wI (am_wI (am_wI (am_wI M 110 0 0) 110 2 0) 110 3 (nI x)) 110 5 0) 110 9 0) 110 11 0) 110 2 = nI 0 := by rw [rI_ix _ _ _ (by decide), rI_ix _ _ _ (by decide), rI_ix _ _ _ (by decide), rI_ix _ _ _ (by decide), rI_eq]; rfl
  have x3 : am_I (am_wI (am_wI (am_wI (am_wI (am_wI (am_wI M 110 0 0) 110 2 0) 110 3 (nI x)) 110 5 0) 110 9 0) 110 11 0) 110 3 = nI x := by rw [rI_ix _ _ _ (by decide), rI_ix _ _ _ (by decide), rI_ix _ _ _ (by decide), rI_eq]
  have x5 : am_I (am_wI (am_wI (am_wI (am_wI (am_wI (am_wI M 110 0 0) 110 2 0) 110 3 (nI x)) 110 5 0) 110 9 0) 110 11 0) 110 5 = nI 0 := by rw [rI_ix _ _ _ (by decide), rI_ix _ _ _ (by decide), rI_eq]; rfl
  have x9 : am_I (am_wI (am_wI (am_wI (am_wI (am_wI (am_wI M 110 0 0) 110 2 0) 110 3 (nI x)) 110 5 0) 110 9 0) 110 11 0) 110 9 = 0 := by rw [rI_ix _ _ _ (by decide), rI_eq]
  have x11 : am_I (am_wI (am_wI (am_wI (am_wI (am_wI (am_wI M 110 0 0) 110 2 0) 110 3 (nI x)) 110 5 0) 110 9 0) 110 11 0) 110 11 = nI 0 := rI_eq _ _ _ _
  have xo : ∀ y, 11 < y → am_I (am_wI (am_wI (am_wI (am_wI (am_wI (am_wI M 110 0 0) 110 2 0) 110 3 (nI x)) 110 5 0) 110 9 0) 110 11 0) 110 y = am_I M 110 y := fun y hy => by rw [rI_ix _ _ _ (by omega), rI_ix _ _ _ (by omega), rI_ix _ _ _ (by omega), rI_ix _ _ _ (by omega), rI_ix _ _ _ (by omega), rI_ix _ _ _ (by omega)]
  have wi : fn12_within (am_wI M 110 0 0) (nI x).toInt64 (0 : Int64) ((am_I (am_wI M 110 0 0) 110 2).toInt64) = some (1, am_wI M 110 0 0) := by
    rw [rI_ix _ _ _ (by decide), e2]
    have := wi_lit (am_wI M 110 0 0) (nI x) 0 (nI f)
    rw [if_pos ⟨nI_le (a := 0) (Nat.zero_le x) (by omega), nI_le hx (by omega)⟩] at this
    exact this
  have st : fn12_text N M 110 (nI x) = am_bd (fn12_steps N (am_wI (am_wI (am_wI (am_wI (am_wI (am_wI M 110 0 0) 110 2 0) 110 3 (nI x)) 110 5 0) 110 9 0) 110 11 0) 110) (fun v6 M7 => fn12_text_b52 N N 110 (1 : Int32) M7) := by
    unfold fn12_text fn12_text_b0
    rw [nk_k, sk110 s, nk_dd, wi, nk_bd, if_neg z_1, nk_k, qK_wI, sk110 s, nk_dd]
  rw [st]
  revert f0 x2 x3 x5 x9 x11 xo
  generalize am_wI (am_wI (am_wI (am_wI (am_wI (am_wI M 110 0 0) 110 2 0) 110 3 (nI x)) 110 5 0) 110 9 0) 110 11 0 = M0
  intro f0 x2 x3 x5 x9 x11 xo
  have s0 := fs_shp f0 s
  obtain ⟨M1, a1, a2, a3, a4⟩ := sx_ok (N := N) (T := T) hN (show x ≤ 600 by omega) hB (Nat.zero_le x) s0 (fun j hj => by rw [fs_I f0 (by decide)]; exact tp j hj) x3 x5
  have s1 := fs_shp a2 s0
  have ma : MAt T x 0 M1 := ⟨s1, fun j hj => by rw [fs_I a2 (by decide), fs_I f0 (by decide)]; exact tp j hj, Nat.zero_le x, a4⟩
  rw [a1, nk_bd]
  have f01 : Fs [110] M M1 := fs_trans f0 a2
  have o1 : ∀ y, ¬ y = 4 → ¬ y = 5 → ¬ y = 6 → ¬ y = 7 → am_I M1 110 y = am_I M0 110 y := a3
  obtain ⟨M2, b1, b2⟩ := rd_m (N := N) (T := T) hN (show x ≤ 600 by omega) hB 7 [] [] 0 N M1 (by decide) (by decide) (by omega) (fun r hr => absurd hr List.not_mem_nil) ma (by rw [o1 9 (by decide) (by decide) (by decide) (by decide)]; exact x9) ⟨by rw [o1 11 (by decide) (by decide) (by decide) (by decide)]; exact x11, rfl, fun i hi => absurd hi (Nat.not_lt_zero i), fun i hi => absurd hi (Nat.not_lt_zero i), fun d hd => absurd hd List.not_mem_nil⟩
  have s2 := fs_shp b1.1 s1
  have g2 : am_I M2 110 2 = nI 0 := by rw [b1.2 2 (by decide) (by decide) (by decide) (by decide) (by decide) (by decide) (by decide), o1 2 (by decide) (by decide) (by decide) (by decide)]; exact x2
  have go : ∀ y, 11 < y → am_I M2 110 y = am_I M 110 y := fun y hy => by rw [b1.2 y (by omega) (by omega) (by omega) (by omega) (by omega) (by omega) (by omega), o1 y (by omega) (by omega) (by omega) (by omega)]; exact xo y hy
  rcases b2 with ⟨z, c1, c2, c3⟩ | ⟨z, c1⟩
  · refine Or.inl ⟨z, ?_⟩
    obtain ⟨r1, r2, r3, r4, r5⟩ := c2
    obtain ⟨M3, d1, d2, d3, d4, d5, d6, d7, d8, d9⟩ := ta_ok (N := N) (D := (rdR T x 7 [] [] 0).2.2) hN (by omega) (rdR_good (T := T) (by omega) 7 [] [] 0 (Nat.zero_le x) (fun d hd => absurd hd List.not_mem_nil)) s2 r4 (by rw [r1, r2])
    have s3 := fs_shp d2 s2
    rw [c1]
    refine ⟨M3, ?_, fs_trans (fs_mono f01 (by decide)) (fs_trans (fs_mono b1.1 (by decide)) (fs_mono d2 (by decide))), by rw [d3 2 (by decide) (by decide) (by decide) (by decide) (by decide) (by decide)]; exact g2, by rw [d3 42 (by decide) (by decide) (by decide) (by decide) (by decide) (by decide)]; exact go 42 (by decide), d4, d5, d6, d7, d8, d9⟩
    unfold fn12_text_b71
    rw [if_neg z_1, nk_k, sk110 s2, nk_dd, d1, nk_bd, nk_k, sk110 s3, nk_dd, d4]
  · refine Or.inr ⟨z, ?_⟩
    rw [c1]
    exact ⟨M2, rfl, fs_trans (fs_mono f01 (by decide)) b1.1, g2, go 42 (by decide), go 18 (by decide), go 19 (by decide), go 40 (by decide)⟩
end
/-- what holds goes on when nothing but scratch changes; the tape anew -/
theorem inv_scr2 {W : List Nat} {M M' : am_Mem} {told m : Nat} {D : Nat → Rc} (h : InvAt M told m D) (f : am_Fr W M M') (hW : ∀ a ∈ W, a ∈ scr) (tap : TapR M') (hb : am_I M' 110 18 = am_I M 110 18) (hc : am_I M' 110 19 = am_I M 110 19) (hd : am_I M' 110 40 = am_I M 110 40) (he : am_I M' 110 42 = am_I M 110 42) : InvAt M' told m D := by
  have f := fr_mono f hW
  obtain ⟨s, _, ⟨pf, p1, p2, p3, p4⟩, l, ⟨u, u1, u2, u3⟩, g1, g2, g3, g4, g5, g6⟩ := h
  have hn := s.1
  have d : Dyn M M' := dyn_fr f scr_le
  have o := scr_out
  have fi : ∀ a ∈ [1, 3, 97, 98, 99, 100, 101, 102, 103, 104, 106, 108, 111, 117, 118, 119, 120, 121, 122, 123, 125, 126, 127, 128, 129, 135], am_I M' a = am_I M a := fun a h => fr_I f (by
    have : ∀ a ∈ [1, 3, 97, 98, 99, 100, 101, 102, 103, 104, 106, 108, 111, 117, 118, 119, 120, 121, 122, 123, 125, 126, 127, 128, 129, 135], a ≤ 141 := by decide
    exact Nat.le_trans (this a h) hn) (o a h)
  have fj : ∀ a ∈ [127, 128, 129], am_J M' a = am_J M a := fun a h => fr_J f (by
    have : ∀ a ∈ [127, 128, 129], a ≤ 141 := by decide
    exact Nat.le_trans (this a h) hn) (o a (by
      have : ∀ a ∈ [127, 128, 129], a ∈ [1, 3, 97, 98, 99, 100, 101, 102, 103, 104, 106, 108, 111, 117, 118, 119, 120, 121, 122, 123, 125, 126, 127, 128, 129, 135] := by decide
      exact this a h))
  have tol : TolF M M' := ⟨fi 121 (by decide), fi 122 (by decide), fi 123 (by decide), fi 125 (by decide), fi 126 (by decide), fj 127 (by decide), fj 128 (by decide), fj 129 (by decide)⟩
  refine ⟨shp_fr s f, tap, ⟨pf, p1, by rw [fi 102 (by decide)]; exact p2, by rw [he]; exact p3, fun i hi => ?_⟩, ?_, ⟨u, u1, by rw [fi 1 (by decide)]; exact u2, by rw [hc]; exact u3⟩, g1, by rw [hd]; exact g2, by rw [hb]; exact g3, ?_, ?_, ?_⟩
  · rw [fi 103 (by decide), fi 135 (by decide)]; exact p4 i hi
  · exact linr_fr d (by rw [fr_R f (by omega)]) (by rw [fi 97 (by decide)]) (fi 98 (by decide)) (fi 99 (by decide)) (fi 100 (by decide)) (fi 101 (by decide)) l
  · exact shr_fr d tol (fr_R f (by omega)) (by rw [fi (104 + 2 * 0) (by decide)]) (fi 117 (by decide)) g4
  · exact kepr_fr d tol (fr_R f (by omega)) (fi (104 + 2 * 1) (by decide)) (fi 118 (by decide)) (fi 119 (by decide)) (fi 120 (by decide)) g5
  · exact kepr_fr d tol (fr_R f (by omega)) (fi (104 + 2 * 2) (by decide)) (fi 118 (by decide)) (fi 119 (by decide)) (fi 120 (by decide)) g6
/-- a line's tiling and the reference's row: one rectangle -/
theorem rec_ok {M : am_Mem} {i told : Nat} {d : Ld} {q q' : Rc} (hi : i < told) (ok : LdOk d) (h : LcT M (am_R M 105 i) d q) (g : LmQ M i d q') : RecR M 0 told i q := by
  obtain ⟨h1, h2, h3, h4⟩ := h
  obtain ⟨g1, g2, g3⟩ := g
  have eo : mO 0 + 124 * i = 124 * i := by show 1488 * (0 - 1) + 124 * i = 124 * i; omega
  rcases h4 with ⟨a1, a2, a3, k, a4, a5⟩ | ⟨a1, a2, a3, a4, a5⟩
  · rcases g3 with ⟨b1, k', b2, b3⟩ | ⟨b1, _⟩
    · obtain ⟨e1, e2⟩ := dq_uni a4 b2
      subst e1
      refine ⟨h1, by rw [eo]; exact g1, h2, Or.inl h3, fun _ => ⟨?_, Or.inl ⟨a2, ?_, a3⟩⟩, fun z => by omega⟩
      · show am_I M (am_R M 105 i) 0 = _
        rw [a2, g2, a1]; rfl
      · show am_I M (am_R M 105 i) 2 = _
        rw [a5, b3, e2]
    · omega
  · rcases g3 with ⟨b1, _⟩ | ⟨b1, b2, b3, b4, b5, b6, b7⟩
    · omega
    · obtain ⟨p0, p8, pe, w14, wl, wf⟩ := nt_ok ok a1
      rw [← a3] at b2
      subst b2
      obtain ⟨c1, c2, c3, c4, c5, c6, c7, c8⟩ := a5
      have hd := fd_le (a := wA d) (b := wB d) w14 (pK d)
      have hd' : (fD (wA d) (wB d) (wK d) (pK d)).natAbs ≤ 1000000000 := hd
      refine ⟨h1, by rw [eo]; exact g1, h2, Or.inl h3, fun _ => ⟨?_, Or.inr ⟨a2, c1, c2.trans b3.symm, ?_, c3.trans b4.symm, pK d + 1, wK d, by omega, w14, c4, c5, b5, b6, c6, c7, fun z => ?_⟩⟩, fun z => by omega⟩
      · show am_I M (am_R M 105 i) 0 = _
        rw [a2, g2, a1]; rfl
      · rw [c2]
        intro z
        rw [Int64.lt_iff_toInt_lt, li_toInt (by omega)] at z
        have : (0 : Int64).toInt = 0 := rfl
        omega
      · have dp : 0 < fD (wA d) (wB d) (wK d) (pK d) := by
          have : ¬ fD (wA d) (wB d) (wK d) (pK d) = 0 := fun e => z (by rw [c2, e]; rfl)
          omega
        obtain ⟨l1, l2⟩ := c8 dp
        obtain ⟨f1, f2⟩ := b7 dp
        exact ⟨fun k hk => by rw [l1 k hk, f1 k (by omega), li_ii], fun k hk => by rw [l2 k hk, f2 k hk, li_ii]⟩
/-- text -/
theorem ok_text {N : Nat} (hN : 100000 ≤ N) : OK_text N Inv := by
  intro M x1 hI
  obtain ⟨told, m, D, h⟩ := hI
  obtain ⟨s, ⟨f, t1, t2, t3, t4⟩, ⟨pf, p1, p2, p3, p4⟩, l, ⟨u, u1, u2, u3⟩, g1, g2, g3, g4, g5, g6⟩ := id h
  have n141 := s.1
  have bad : (x1 < 0 ∨ nI f < x1) → ∃ (v : Int32) (M1 M2 : am_Mem), fn11_text N M 1 x1 = some (v, M1) ∧ am_K M1 110 = 12 ∧ fn12_text N M1 110 x1 = some (v, M2) ∧ Inv M2 := by
    intro hb
    refine ⟨-1, M, am_wI M 110 0 0, ?_, sk110 s, ?_, told, m, D, inv_thr h 0⟩
    · unfold fn11_text fn11_text_b0 fn11_text_b15
      by_cases q : x1 < 0
      · rw [if_pos q]
      · rw [if_neg q, nk_k, sk1 s, nk_dd, sr1_0 s, nk_k, sk2 s, nk_dd, t2, if_neg (Int32.not_le.mpr (hb.resolve_left q))]
    · have wi : fn12_within (am_wI M 110 0 0) x1.toInt64 (0 : Int64) ((am_I (am_wI M 110 0 0) 110 2).toInt64) = some (0, am_wI M 110 0 0) := by
        rw [rI_ix _ _ _ (by decide), t3]
        have := wi_lit (am_wI M 110 0 0) x1 0 (nI f)
        rw [if_neg (fun c => hb.elim (fun q => absurd c.1 (Int32.not_le.mpr q)) (fun q => absurd c.2 (Int32.not_le.mpr q)))] at this
        exact this
      unfold fn12_text fn12_text_b0
      rw [nk_k, sk110 s, nk_dd, wi, nk_bd, if_pos rfl]
  by_cases q1 : x1 < 0
  · exact bad (Or.inl q1)
  · by_cases q2 : nI f < x1
    · exact bad (Or.inr q2)
    · obtain ⟨x, rfl, hx⟩ : ∃ x : Nat, x1 = nI x ∧ x ≤ f := by
        rw [Int32.not_lt, Int32.le_iff_toInt_le] at q1 q2
        rw [nI_toInt (by omega)] at q2
        have z0 : (0 : Int32).toInt = 0 := rfl
        rw [z0] at q1
        refine ⟨x1.toInt.toNat, ?_, by omega⟩
        apply Int32.toInt_inj.mp
        rw [nI_toInt (by omega)]
        omega
      have hB : ∀ y, y < x → isB (am_I M 111 y) := fun y hy => by
        have := t4 y (by omega)
        unfold isB
        rw [← this.1]; exact this.2
      have tpc : ∀ j, j < x → am_I M 3 j = am_I M 111 j := fun j hj => (t4 j (by omega)).1
      rcases tx_c (N := N) (T := fun j => am_I M 111 j) hN t1 hx s tpc t2 with ⟨z, M1, a1, a2, a3, a4, a5, a6, a7, a8, a9, a10, a11⟩ | ⟨z, M1, a1, a2, a3⟩
      · have k110 : am_I M1 110 = am_I M 110 := txf_I a3 (by omega) (by decide)
        have k111 : am_I M1 111 = am_I M 111 := txf_I a3 (by omega) (by decide)
        rcases tx_m (N := N) (T := fun j => am_I M 111 j) (M := M1) hN t1 hx hB a2 (fun j hj => by rw [k111]) (by rw [k110]; exact t3) with ⟨_, M2, b1, b2, b3, b4, b5, b6, b7, b8, b9, b10⟩ | ⟨y, _⟩
        · have s2 := fs_shp b2 a2
          have d12 : Dyn M1 M2 := fs_dyn b2 (by decide)
          have d02 : Dyn M M2 := dyn_trans (txf_dyn a3 tzW_le) d12
          have R12 : am_R M2 = am_R M1 := b2.2.2.2.1
          have kI : ∀ a, a ≤ 141 → a ∉ tzW → a ∉ (112 :: 113 :: 114 :: 115 :: 116 :: tqW) → am_I M2 a = am_I M a := fun a ha h1 h2 => by rw [fs_I b2 h2, txf_I a3 (by omega) h1]
          have okD := rdR_good (T := fun j => am_I M 111 j) (n := x) (by omega) 7 [] [] 0 (Nat.zero_le x) (fun d hd => absurd hd List.not_mem_nil)
          have ex : ∀ j, ∃ q : Rc, j < (rdR (fun j => am_I M 111 j) x 7 [] [] 0).2.2.length → RecR M2 0 (rdR (fun j => am_I M 111 j) x 7 [] [] 0).2.2.length j q := by
            intro j
            by_cases hj : j < (rdR (fun j => am_I M 111 j) x 7 [] [] 0).2.2.length
            · obtain ⟨q, hq⟩ := a11 j hj
              obtain ⟨q', hq', _⟩ := b10 j hj
              refine ⟨q, fun _ => rec_ok hj (okD _ (List.getElem_mem hj)) (by rw [R12]; exact lct_dyn d12 hq) hq'⟩
            · exact ⟨(1, 0, 0, []), fun c => absurd c hj⟩
          refine ⟨_, M1, M2, a1, sk110 a2, b1, (rdR (fun j => am_I M 111 j) x 7 [] [] 0).2.2.length, (rdR (fun j => am_I M 111 j) x 7 [] [] 0).2.2.length, fun j => Classical.choose (ex j), s2, ⟨0, by decide, ?_, b3, fun i hi => absurd hi (Nat.not_lt_zero i)⟩, ⟨pf, p1, ?_, ?_, fun i hi => ?_⟩, ?_, ⟨0, by omega, ?_, b7⟩, a10, b6, b5, ⟨by omega, Nat.le_refl _, ?_, fun j hj => Classical.choose_spec (ex j) hj⟩, Or.inl ⟨?_, b8⟩, Or.inl ⟨?_, b9⟩⟩
          · rw [fs_I b2 (by decide)]; exact a4
          · rw [kI 102 (by decide) (by decide) (by decide)]; exact p2
          · rw [b4, k110]; exact p3
          · rw [kI 103 (by decide) (by decide) (by decide), kI 135 (by decide) (by decide) (by decide)]; exact p4 i hi
          · exact linr_fr d02 (by rw [R12, txf_R a3 (by omega) (by decide)]) (by rw [kI 97 (by decide) (by decide) (by decide)]) (kI 98 (by decide) (by decide) (by decide)) (kI 99 (by decide) (by decide) (by decide)) (kI 100 (by decide) (by decide) (by decide)) (kI 101 (by decide) (by decide) (by decide)) l
          · rw [fs_I b2 (by decide)]; exact a5
          · show am_I M2 104 1 = _
            rw [fs_I b2 (by decide)]; exact a7
          · show am_I M2 106 2 = 0
            rw [fs_I b2 (by decide)]; exact a8
          · show am_I M2 108 2 = 0
            rw [fs_I b2 (by decide)]; exact a9
        · exact absurd z y
      · have s1 := fs_shp a2 s
        have k110 : am_I M1 110 = am_I M 110 := fs_I a2 (by decide)
        have k111 : am_I M1 111 = am_I M 111 := fs_I a2 (by decide)
        rcases tx_m (N := N) (T := fun j => am_I M 111 j) (M := M1) hN t1 hx hB s1 (fun j hj => by rw [k111]) (by rw [k110]; exact t3) with ⟨y, _⟩ | ⟨_, M2, b1, b2, b3, b4, b5, b6, b7⟩
        · exact absurd y z
        · refine ⟨_, M1, M2, a1, sk110 s1, b1, told, m, D, ?_⟩
          have fr : am_Fr (rdW ++ [110, 112, 113, 114, 115, 116]) M M2 := fr_trans (fr_mono (fs_fr a2) (fun a ha => List.mem_append_left _ ha)) (fr_mono (fs_fr b2) (fun a ha => List.mem_append_right _ ha))
          exact inv_scr2 h fr (by decide +kernel) ⟨0, by decide, by rw [fs_I b2 (by decide)]; exact a3, b3, fun i hi => absurd hi (Nat.not_lt_zero i)⟩ (by rw [b5, k110]) (by rw [b6, k110]) (by rw [b7, k110]) (by rw [b4, k110])
