theorem rlm_le {M M' : am_Mem} {t : Nat} (f : Fs [110] M M') (o : ∀ y, ¬ y = 4 → ¬ y = 5 → ¬ y = 6 → ¬ y = 7 → ¬ y = 9 → ¬ y = 10 → ¬ y = 11 → am_I M' 110 y = am_I M 110 y) : RlM M M' t :=
  ⟨fs_mono f (by decide), o, fun u _ => ⟨by rw [fs_J f (by decide)], by rw [fs_I f (by decide)], by rw [fs_I f (by decide)], by rw [fs_I f (by decide)]⟩, fun j _ => by rw [fs_I f (by decide)]⟩
section
variable {T : Nat → Int32} {n : Nat}
theorem l60_m {N p : Nat} {M : am_Mem} {Q : List Nat} {x : Int32} (hN : 100000 ≤ N) (hn : n ≤ 600) (hB : ∀ x, x < n → isB (T x)) (hx : x = 0 ∨ x = 1) (hQ : Q.length < 6) (hW : ∀ r ∈ Q, tkK T n r = 1) (h : MAt T n p M) (e9 : am_I M 110 9 = 0) (e11 : am_I M 110 11 = nI Q.length) (e12 : ∀ i (hi : i < Q.length), am_J M 112 i = wWm T n (Q[i])) : ∃ v M', fn12_lineHere_b60 N 110 1 110 x M = some (v, M') ∧ LnM T n Q.length (tkE T n p) M M' v (lnX T n Q p (if x = 0 then 1 else 0)) := by
  have s := h.1
  obtain ⟨M1, a1, a2, a3, a4⟩ := ma_nx hN hn hB h
  have s1 := a4.1
  have e111 := (a3 11 (by decide) (by decide) (by decide) (by decide)).trans e11
  have f2 : Fs [113, 114] M1 (am_wI (am_wI M1 113 Q.length x) 114 Q.length 0) := fs_trans (fs_wI _ _ _ (by decide)) (fs_wI _ _ _ (by decide))
  have r2 := rlm_trans (rlm_rf (rfm_nx Q.length a2 a3)) (rlm_1314 M1 Q.length x 0)
  have e142 : am_I (am_wI (am_wI M1 113 Q.length x) 114 Q.length 0) 114 Q.length = nI 0 := rI_eq _ _ _ _
  have e132 : am_I (am_wI (am_wI M1 113 Q.length x) 114 Q.length 0) 113 Q.length = x := by rw [rI_ne _ _ _ (by decide), rI_eq]
  unfold fn12_lineHere_b60
  rw [nk_k, sk110 s, nk_dd, mu_1 s e9, nk_bd, if_neg z_1, nk_k, sk110 s, nk_dd, a1, nk_bd, nk_k, sk110 s1, nk_dd, sr110_13 s1, nk_k, sk113 s1, nk_dd, e111, sl113 s1, nk_in hQ (by decide), nk_ck, nI_clamp (by omega), sr110_14 s1, nk_k, sk114 s1, nk_dd, rI_ne _ _ _ (show ¬ 110 = 113 by decide), e111, sl114 s1, nk_in hQ (by decide), nk_ck, nI_clamp (by omega)]
  revert f2 r2 e142 e132
  generalize am_wI (am_wI M1 113 Q.length x) 114 Q.length 0 = M2
  intro f2 r2 e142 e132
  have h2 := ma_fs a4 f2 (by decide) (by decide)
  have e92 : am_I M2 110 9 = 0 := by rw [fs_I f2 (by decide), a3 9 (by decide) (by decide) (by decide) (by decide)]; exact e9
  have e112 : am_I M2 110 11 = nI Q.length := by rw [fs_I f2 (by decide)]; exact e111
  have e122 : ∀ i (hi : i < Q.length), am_J M2 112 i = wWm T n (Q[i]) := fun i hi => by rw [fs_J f2 (by decide), fs_J a2 (by decide)]; exact e12 i hi
  obtain ⟨v, M3, b1, b2, b3, b4, b5⟩ := nm_m hN hn hB hQ hW h2 e92 e112 e122
  have r3 := rlm_trans r2 (rlm_nm b2 b3 b4)
  have e113 : am_I M3 110 11 = nI Q.length := (b3 11 (by decide) (by decide) (by decide) (by decide) (by decide) (by decide)).trans e112
  have e143 : am_I M3 114 Q.length = nI 0 := by rw [fs_I b2 (by decide)]; exact e142
  have e133 : am_I M3 113 Q.length = x := by rw [fs_I b2 (by decide)]; exact e132
  unfold fn12_lineHere_b135
  unfold lnX
  rw [if_neg (show ¬ 6 ≤ Q.length by omega)]
  have endl : ∀ {q : Nat} {M4 : am_Mem} {d : Ld}, RlM M M4 Q.length → MAt T n q M4 → am_I M4 110 9 = 0 → am_I M4 110 11 = nI Q.length → am_J M4 112 Q.length = wWm T n (tkE T n p) → LdM M4 Q.length d → ∃ v M', fn12_lineHere_b114 N 110 M4 = some (v, M') ∧ LnM T n Q.length (tkE T n p) M M' v (if tkK T n q = 5 then (0, tkE T n q, d) else (ft T n q 1, tkE T n (tkE T n p), ld0)) := by
    intro q M4 d r4 h4 g9 g11 g12 gd
    obtain ⟨v, M5, c1, c2, c3, c4⟩ := le_m (N := N) hN hn hB hQ h4 g9 g11
    refine ⟨v, M5, c1, rlm_trans r4 (rlm_le c2 c3), ?_⟩
    rcases c4 with ⟨k, d1, d2, d3, d4⟩ | ⟨k, d1, d2⟩
    · rw [if_pos k]
      refine Or.inl ⟨rfl, d1, d2, d3, d4, ?_, ?_⟩
      · rw [fs_J c2 (by decide)]; exact g12
      · unfold LdM at gd ⊢
        rw [fs_I c2 (show 113 ∉ [110] by decide), fs_I c2 (show 114 ∉ [110] by decide), fs_I c2 (show 115 ∉ [110] by decide), fs_I c2 (show 116 ∉ [110] by decide)]
        exact gd
    · rw [if_neg k]
      exact Or.inr ⟨ft_1 hn h4.2.2.1, d1, d2⟩
  rcases b5 with ⟨w1, w2, c1, c2, c3, c4⟩ | ⟨w1, c1, c2⟩ | ⟨w1, w2, c1, c2⟩
  · rw [if_pos w1, if_neg w2]
    rcases hx with hx | hx
    · rw [if_pos hx, if_pos hx, if_pos rfl]
      obtain ⟨v4, M4, d1, d2, d3⟩ := dr_m (N := N) hN hn hB hQ c3 c2 e113 e143
      unfold fn12_drawnLine fn12_drawnLine_b0
      rw [nk_k, sk110 h2.1, nk_dd, b1, nk_bd, c1, if_neg z_1, d1, nk_bd]
      unfold lnD
      rcases d3 with ⟨z, g1, g2, g3, g4⟩ | ⟨z, g1, g2⟩
      · rw [g1, if_neg z_1, if_pos z]
        refine endl (rlm_trans r3 (rlm_rf d2)) g3 g2 ?_ ?_ (Or.inl ⟨rfl, ?_, ?_, ?_⟩)
        · rw [d2.2.1 11 (by decide) (by decide) (by decide) (by decide) (by decide) (by decide)]; exact e113
        · rw [fs_J d2.1 (by decide)]; exact c4
        · rw [fs_I d2.1 (by decide), e133]; exact hx
        · rw [g4.1, Nat.zero_add]
        · intro j hj
          have := g4.2.2 j hj
          rw [Nat.zero_add] at this
          exact this
      · rw [g1, if_pos rfl, if_neg z]
        exact ⟨0, M4, rfl, rlm_trans r3 (rlm_rf d2), Or.inr ⟨z, rfl, g2⟩⟩
    · have x0 : ¬ x = 0 := by rw [hx]; exact z_1
      rw [if_neg x0, if_neg x0, if_neg (show ¬ (0 : Int32) = 1 by decide)]
      obtain ⟨v4, M4, d1, d2, j1, j2, j3, d3⟩ := nl_m (N := N) hN hn hB hQ c3 c2 e113 e143
      unfold fn12_netLine fn12_netLine_b0
      rw [nk_k, sk110 h2.1, nk_dd, b1, nk_bd, c1, if_neg z_1, nk_k, sk110 c3.1, nk_dd, d1, nk_bd]
      unfold lnN
      rcases d3 with ⟨z, g1, g2, g3, g5, g4⟩ | ⟨z, g1, g2⟩
      · rw [g1, if_neg z_1, if_pos z]
        refine endl (rlm_trans r3 d2) g3 g2 j3 (j1.trans c4) (Or.inr ⟨rfl, ?_, ?_, g5, ?_⟩)
        · rw [j2, e133]; exact hx
        · rw [g4.1, Nat.zero_add, List.length_map]
        · intro j hj
          have := g4.2.2 j (by rw [List.length_map]; exact hj)
          rw [Nat.zero_add, List.getElem_map] at this
          exact this
      · rw [g1, if_pos rfl, if_neg z]
        exact ⟨0, M4, rfl, rlm_trans r3 d2, Or.inr ⟨z, rfl, g2⟩⟩
  · rw [if_neg w1]
    refine ⟨0, M3, ?_, r3, Or.inr ⟨ft_1 hn a4.2.2.1, rfl, c2⟩⟩
    rcases hx with hx | hx
    · unfold fn12_drawnLine fn12_drawnLine_b0
      rw [if_pos hx, nk_k, sk110 h2.1, nk_dd, b1, nk_bd, c1, if_pos rfl, nk_bd, if_pos rfl]
    · unfold fn12_netLine fn12_netLine_b0
      rw [if_neg (show ¬ x = 0 by rw [hx]; exact z_1), nk_k, sk110 h2.1, nk_dd, b1, nk_bd, c1, if_pos rfl, nk_bd, if_pos rfl]
  · rw [if_pos w1, if_pos w2]
    refine ⟨0, M3, ?_, r3, Or.inr ⟨ft_2 hn a4.2.2.1, rfl, c2⟩⟩
    rcases hx with hx | hx
    · unfold fn12_drawnLine fn12_drawnLine_b0
      rw [if_pos hx, nk_k, sk110 h2.1, nk_dd, b1, nk_bd, c1, if_pos rfl, nk_bd, if_pos rfl]
    · unfold fn12_netLine fn12_netLine_b0
      rw [if_neg (show ¬ x = 0 by rw [hx]; exact z_1), nk_k, sk110 h2.1, nk_dd, b1, nk_bd, c1, if_pos rfl, nk_bd, if_pos rfl]
theorem l27_m {N p : Nat} {M : am_Mem} {Q : List Nat} {x : Int32} (hN : 100000 ≤ N) (hn : n ≤ 600) (hB : ∀ x, x < n → isB (T x)) (hx : x = 0 ∨ x = 1) (hQ : Q.length ≤ 6) (hW : ∀ r ∈ Q, tkK T n r = 1) (h : MAt T n p M) (e9 : am_I M 110 9 = 0) (e11 : am_I M 110 11 = nI Q.length) (e12 : ∀ i (hi : i < Q.length), am_J M 112 i = wWm T n (Q[i])) : ∃ v M', fn12_lineHere_b27 N x 110 M = some (v, M') ∧ LnM T n Q.length (tkE T n p) M M' v (lnX T n Q p (if x = 0 then 1 else 0)) := by
  have s := h.1
  unfold fn12_lineHere_b27 fn12_lineHere_b38 fn12_lineHere_b67
  rw [if_neg (show ¬ x < 0 by rcases hx with e | e <;> rw [e] <;> decide), nk_k, sk110 s, nk_dd, mu_1 s e9, nk_bd, if_neg z_1, nk_k, sk110 s, nk_dd, e11]
  by_cases q6 : Q.length < 6
  · rw [if_neg (show ¬ (6 : Int32) ≤ nI Q.length from nI_ge (b := 6) q6 (by decide))]
    exact l60_m hN hn hB hx q6 hW h e9 e11 e12
  · rw [if_pos (show (6 : Int32) ≤ nI Q.length from nI_le (a := 6) (by omega) (by omega))]
    unfold fn12_lineHere_b60 fn12_lineHere_b67 lnX
    rw [if_pos (show 6 ≤ Q.length by omega), nk_k, sk110 s, nk_dd, mu_0 h e9 (by decide), nk_bd, if_pos rfl]
    exact ⟨0, _, rfl, rlm_rf (rfm_mu M _ 4 _), Or.inr ⟨ft_4 hn h.2.2.1, rfl, mu_ft 4⟩⟩
theorem ln_m {N p : Nat} {M : am_Mem} {Q : List Nat} (hN : 100000 ≤ N) (hn : n ≤ 600) (hB : ∀ x, x < n → isB (T x)) (hQ : Q.length ≤ 6) (hW : ∀ r ∈ Q, tkK T n r = 1) (h : MAt T n p M) (e9 : am_I M 110 9 = 0) (e11 : am_I M 110 11 = nI Q.length) (e12 : ∀ i (hi : i < Q.length), am_J M 112 i = wWm T n (Q[i])) : ∃ v M', fn12_lineHere N M 110 = some (v, M') ∧ LnM T n Q.length (tkE T n p) M M' v (lnR T n Q p) := by
  have s := h.1
  unfold fn12_lineHere fn12_lineHere_b0
  obtain ⟨v, b1, b2⟩ := isD_m hN h
  rw [nk_k, sk110 s, nk_dd, b1, nk_bd]
  rcases b2 with ⟨bv, bw⟩ | ⟨bv, bw⟩
  · rw [bv, if_neg z_1]
    have e : lnR T n Q p = lnX T n Q p (if (0 : Int32) = 0 then 1 else 0) := by
      unfold lnR lnX
      rw [if_pos (Or.inl bw), if_pos (rfl : (0 : Int32) = 0), if_pos (rfl : (1 : Int32) = 1)]
      by_cases q : 6 ≤ Q.length
      · rw [if_pos q, if_pos q]
      · rw [if_neg q, if_neg q]
        rw [if_pos (show isDw T n p from bw)]
    rw [e]
    exact l27_m hN hn hB (Or.inl rfl) hQ hW h e9 e11 e12
  · rw [bv, if_pos rfl, nk_k, sk110 s, nk_dd]
    obtain ⟨u, d1, d2⟩ := isN_m hN h
    rw [d1, nk_bd]
    rcases d2 with ⟨du, dw⟩ | ⟨du, dw⟩
    · rw [du, if_neg z_1]
      have e : lnR T n Q p = lnX T n Q p (if (1 : Int32) = 0 then 1 else 0) := by
        unfold lnR lnX
        rw [if_pos (Or.inr dw), if_neg (show ¬ isDw T n p from bw), if_neg z_1, if_neg (show ¬ (0 : Int32) = 1 by decide)]
      rw [e]
      exact l27_m hN hn hB (Or.inr rfl) hQ hW h e9 e11 e12
    · have e : lnR T n Q p = (ft T n p 1, p, ld0) := by
        unfold lnR
        rw [if_neg (fun z => z.elim bw dw)]
      unfold fn12_lineHere_b27 fn12_lineHere_b38 fn12_lineHere_b67
      rw [du, if_pos rfl, if_pos (show (-1 : Int32) < 0 by decide), nk_k, sk110 s, nk_dd, mu_0 h e9 (by decide), nk_bd, if_pos rfl, e]
      exact ⟨0, _, rfl, rlm_rf (rfm_mu M _ 1 _), Or.inr ⟨ft_1 hn h.2.2.1, rfl, mu_ft 1⟩⟩
end
