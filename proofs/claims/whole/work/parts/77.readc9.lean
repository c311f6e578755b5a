/-- the class reads the text -/
theorem rd_ok {N f x : Nat} {T : Nat → Int32} {M : am_Mem} (hN : 100000 ≤ N) (hf : f ≤ 600) (hx : x ≤ f) (s : Shp M) (tp : ∀ j, j < x → am_I M 3 j = T j) (e7 : am_I M 2 7 = nI f) : ∃ M', fn8_read N M 2 (nI x) = some ((rdR T x 7 [] [] 0).1, M') ∧ Fs rdW M M' ∧ am_I M' 2 7 = nI 0 ∧ ((rdR T x 7 [] [] 0).1 = 0 → RdS T x M' (rdR T x 7 [] [] 0).2.1 (rdR T x 7 [] [] 0).2.2 ∧ (rdR T x 7 [] [] 0).2.1.length ≤ 6) := by
  have m2 : (2 : Nat) ∈ [2] := List.mem_cons_self
  have f0 : Fs [2] M (am_wI (am_wI (am_wI (am_wI M 2 1 (nI x)) 2 7 0) 2 2 0) 2 8 0) := fs_trans (fs_trans (fs_trans (fs_wI _ _ _ m2) (fs_wI _ _ _ m2)) (fs_wI _ _ _ m2)) (fs_wI _ _ _ m2)
  have i1 : am_I (am_wI (am_wI (am_wI (am_wI M 2 1 (nI x)) 2 7 0) 2 2 0) 2 8 0) 2 1 = nI x := by rw [rI_ix _ _ _ (by decide), rI_ix _ _ _ (by decide), rI_ix _ _ _ (by decide), rI_eq]
  have i7 : am_I (am_wI (am_wI (am_wI (am_wI M 2 1 (nI x)) 2 7 0) 2 2 0) 2 8 0) 2 7 = nI 0 := by rw [rI_ix _ _ _ (by decide), rI_ix _ _ _ (by decide), rI_eq]; rfl
  have i2 : am_I (am_wI (am_wI (am_wI (am_wI M 2 1 (nI x)) 2 7 0) 2 2 0) 2 8 0) 2 2 = nI 0 := by rw [rI_ix _ _ _ (by decide), rI_eq]; rfl
  have i8 : am_I (am_wI (am_wI (am_wI (am_wI M 2 1 (nI x)) 2 7 0) 2 2 0) 2 8 0) 2 8 = nI 0 := by rw [rI_eq]; rfl
  have st : fn8_read N M 2 (nI x) = am_bd (fn8_nextToken N (am_wI (am_wI (am_wI (am_wI M 2 1 (nI x)) 2 7 0) 2 2 0) 2 8 0) 2) (fun v2 M3 => fn8_read_b33 N N 2 0 M3) := by
    unfold fn8_read fn8_read_b0
    rw [nk_k, sk2 s, nk_dd, e7, if_neg (show ¬ nI f < nI x from Int32.not_lt.mpr (nI_le hx (by omega)))]
  rw [st]
  revert f0 i1 i7 i2 i8
  generalize am_wI (am_wI (am_wI (am_wI M 2 1 (nI x)) 2 7 0) 2 2 0) 2 8 0 = M0
  intro f0 i1 i7 i2 i8
  obtain ⟨M1, a1, a2, a3, a4⟩ := nx_c (N := N) (T := T) (n := x) (i := 0) hN (by omega) (Nat.zero_le _) (fs_shp f0 s) (fun j hj => by rw [fs_I f0 (by decide)]; exact tp j hj) i1 i2
  have h1 : CAt T x 0 M1 := ⟨fs_shp a2 (fs_shp f0 s), fun j hj => by rw [fs_I a2 (by decide), fs_I f0 (by decide)]; exact tp j hj, Nat.zero_le _, a4⟩
  have r1 : RdS T x M1 [] [] := ⟨(a3 8 (by decide) (by decide) (by decide)).trans i8, rfl, fun i hi => absurd hi (Nat.not_lt_zero i), fun i hi => absurd hi (Nat.not_lt_zero i)⟩
  obtain ⟨M2, b1, b2, b3, b4⟩ := rd_c (N := N) hN (by omega) 7 [] [] 0 N M1 (by decide) (by decide) (by omega) h1 r1
  have f1 := fs_mono (fs_trans f0 a2) (show ∀ a ∈ [2], a ∈ rdW by decide)
  refine ⟨M2, ?_, fs_trans f1 b2, ?_, b4⟩
  · rw [a1, nk_bd]; exact b1
  · rw [b3, a3 7 (by decide) (by decide) (by decide)]; exact i7
