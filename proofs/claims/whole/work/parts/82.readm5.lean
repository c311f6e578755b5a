section
variable {T : Nat → Int32} {n p : Nat} {M : am_Mem}
theorem nm_m {N : Nat} {Q : List Nat} (hN : 100000 ≤ N) (hn : n ≤ 600) (hB : ∀ x, x < n → isB (T x)) (hQ : Q.length < 6) (hW : ∀ r ∈ Q, tkK T n r = 1) (h : MAt T n p M) (e9 : am_I M 110 9 = 0) (e11 : am_I M 110 11 = nI Q.length) (e12 : ∀ i (hi : i < Q.length), am_J M 112 i = wWm T n (Q[i])) : ∃ v M', fn12_newName N M 110 = some (v, M') ∧ Fs [110, 112] M M' ∧ (∀ y, ¬ y = 4 → ¬ y = 5 → ¬ y = 6 → ¬ y = 7 → ¬ y = 9 → ¬ y = 10 → am_I M' 110 y = am_I M 110 y) ∧ (∀ i, ¬ i = Q.length → am_J M' 112 i = am_J M 112 i) ∧
    (((tkK T n p = 1 ∧ ¬ isDw T n p ∧ ¬ isNw T n p) ∧ (¬ ∃ r ∈ Q, wW T n r = wW T n p) ∧ v = 1 ∧ am_I M' 110 9 = 0 ∧ MAt T n (tkE T n p) M' ∧ am_J M' 112 Q.length = wWm T n p) ∨ (¬ (tkK T n p = 1 ∧ ¬ isDw T n p ∧ ¬ isNw T n p) ∧ v = 0 ∧ FtM M' (ft T n p 1)) ∨ ((tkK T n p = 1 ∧ ¬ isDw T n p ∧ ¬ isNw T n p) ∧ (∃ r ∈ Q, wW T n r = wW T n p) ∧ v = 0 ∧ FtM M' (ft T n p 2))) := by
  have s := h.1
  obtain ⟨x', a1, a2⟩ := nn_loop (N := N) (c := Q.length) (by omega) s e11 Q.length 0 0 N (by omega) (by omega) (Or.inl rfl)
  have st : fn12_newName N M 110 = _ := a1
  rw [st]
  obtain ⟨v, b1, b2⟩ := iN_m hN h
  rw [b1, nk_bd, nk_k, sk110 s, nk_dd]
  have mu : ∀ k : Int32, Fs [110, 112] M (am_wI (am_wI M 110 9 k) 110 10 (nI (tkS T n p))) ∧ (∀ y, ¬ y = 4 → ¬ y = 5 → ¬ y = 6 → ¬ y = 7 → ¬ y = 9 → ¬ y = 10 → am_I (am_wI (am_wI M 110 9 k) 110 10 (nI (tkS T n p))) 110 y = am_I M 110 y) ∧ (∀ i, ¬ i = Q.length → am_J (am_wI (am_wI M 110 9 k) 110 10 (nI (tkS T n p))) 112 i = am_J M 112 i) := fun k =>
    ⟨fs_trans (fs_wI _ _ _ (by decide)) (fs_wI _ _ _ (by decide)), fun y _ _ _ _ e f => by rw [rI_ix _ _ _ f, rI_ix _ _ _ e], fun i _ => by rw [qJ_wI, qJ_wI]⟩
  rcases b2 with ⟨bv, bw⟩ | ⟨bv, bw⟩
  · rw [bv, mu_1 s e9, nk_bd, if_neg z_1]
    have w8 : am_J M 110 8 = wWm T n p := ma_w h bw.1
    have same : (∃ r ∈ Q, wW T n r = wW T n p) ↔ ¬ x' = 0 := by
      constructor
      · rintro ⟨r, hr, e⟩ z
        obtain ⟨i, hi, rfl⟩ := List.getElem_of_mem hr
        have := (a2.mp z).2 i (Nat.zero_le _) hi
        rw [e12 i hi, w8] at this
        exact this ((ww (tk_1 (hW _ hr)).2 (tk_1 bw.1).2).mp e)
      · intro z
        refine Classical.byContradiction (fun y => z (a2.mpr ⟨rfl, fun i _ hi e => y ⟨Q[i], List.getElem_mem hi, ?_⟩⟩))
        rw [e12 i hi, w8] at e
        exact (ww (tk_1 (hW _ (List.getElem_mem hi))).2 (tk_1 bw.1).2).mpr e
    unfold fn12_newName_b62 fn12_newName_b69
    by_cases z : x' = 0
    · have f1 : Fs [112] M (am_wJ M 112 Q.length (wWm T n p)) := fs_wJ _ _ _ List.mem_cons_self
      have h1 := ma_fs h f1 (by decide) (by decide)
      obtain ⟨M2, d1, d2, d3, d4⟩ := ma_nx hN hn hB h1
      rw [if_pos z, nk_k, sk110 s, nk_dd, mu_1 s e9, nk_bd, if_neg z_1, nk_k, sk110 s, nk_dd, sr110_12 s, nk_k, sk112 s, nk_dd, e11, sl112 s, nk_in hQ (by decide), nk_ck, nI_clamp (by omega), w8, d1, nk_bd]
      have o : ∀ y, am_I (am_wJ M 112 Q.length (wWm T n p)) 110 y = am_I M 110 y := fun y => by rw [qI_wJ]
      refine ⟨1, M2, rfl, fs_trans (fs_mono f1 (by decide)) (fs_mono d2 (by decide)), fun y a b c d _ _ => by rw [d3 y a b c d, o], fun i hi => ?_, Or.inl ⟨bw, fun q => same.mp q z, rfl, ?_, d4, ?_⟩⟩
      · rw [fs_J d2 (by decide), rJ_ix _ _ _ hi]
      · rw [d3 9 (by decide) (by decide) (by decide) (by decide), o]; exact e9
      · rw [fs_J d2 (by decide), rJ_eq]
    · rw [if_neg z, nk_k, sk110 s, nk_dd, mu_0 h e9 (by decide), nk_bd, if_pos rfl]
      obtain ⟨m1, m2, m3⟩ := mu 2
      exact ⟨0, _, rfl, m1, m2, m3, Or.inr (Or.inr ⟨bw, same.mpr z, rfl, mu_ft 2⟩)⟩
  · rw [bv, mu_0 h e9 (by decide), nk_bd, if_pos rfl]
    obtain ⟨m1, m2, m3⟩ := mu 1
    exact ⟨0, _, rfl, m1, m2, m3, Or.inr (Or.inl ⟨bw, rfl, mu_ft 1⟩)⟩
end
