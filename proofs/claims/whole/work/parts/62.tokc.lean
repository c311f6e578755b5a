theorem nx_word {N n s : Nat} {T : Nat → Int32} (hn : n ≤ 600) : ∀ k j fuel M, n - j = k → k < fuel → j ≤ n → s ≤ j → Shp M → (∀ x, x < n → am_I M 3 x = T x) → am_I M 2 1 = nI n → am_I M 2 2 = nI j → am_I M 2 4 = nI s → am_J M 2 5 = wC T s (j - s) → ∃ M', fn8_nextToken_b104 N fuel 2 M = some ((), M') ∧ Fs [2] M M' ∧ (∀ x, ¬ x = 2 → ¬ x = 3 → am_I M' 2 x = am_I M 2 x) ∧ am_I M' 2 2 = nI (tkF (fun x => isLt (T x)) n j) ∧ am_I M' 2 3 = (if tkF (fun x => isLt (T x)) n j - s ≤ 6 then 1 else 6) ∧ am_J M' 2 5 = wC T s (tkF (fun x => isLt (T x)) n j - s) := by
  have fin : ∀ (j : Nat) (M : am_Mem), j ≤ n → s ≤ j → Shp M → am_I M 2 2 = nI j → am_I M 2 4 = nI s → am_J M 2 5 = wC T s (j - s) → ∃ M', fn8_nextToken_b166 N 2 M = some ((), M') ∧ Fs [2] M M' ∧ (∀ x, ¬ x = 2 → ¬ x = 3 → am_I M' 2 x = am_I M 2 x) ∧ am_I M' 2 2 = nI j ∧ am_I M' 2 3 = (if j - s ≤ 6 then 1 else 6) ∧ am_J M' 2 5 = wC T s (j - s) := by
    intro j M hj hs sh e2 e4 e5
    refine ⟨am_wI M 2 3 (if j - s ≤ 6 then 1 else 6), ?_, fs_wI _ _ _ List.mem_cons_self, fun x _ h => rI_ix _ _ _ h, by rw [rI_ix _ _ _ (by decide)]; exact e2, rI_eq _ _ _ _, by rw [qJ_wI]; exact e5⟩
    unfold fn8_nextToken_b166 fn8_nextToken_b187 fn8_nextToken_b311
    rw [nk_k, sk2 sh, nk_dd, e2, e4, nk_sub _ _ hs]
    by_cases q : j - s ≤ 6
    · rw [if_pos q, if_neg (show ¬ (6 : Int32) < nI (j - s) from Int32.not_lt.mpr (show nI (j - s) ≤ nI 6 from nI_le q (by decide))), nk_dd]
    · rw [if_neg q, if_pos (show (6 : Int32) < nI (j - s) from (show nI 6 < nI (j - s) from nI_lt (by omega) (by omega))), nk_dd]
  intro k
  induction k with
  | zero =>
    intro j fuel M hk hf hj hs sh tp e1 e2 e4 e5
    obtain ⟨g, rfl⟩ : ∃ g, fuel = g + 1 := ⟨fuel - 1, by omega⟩
    have ej : tkF (fun x => isLt (T x)) n j = j := tkF_no (fun q => by omega)
    rw [ej]
    show ∃ M', fn8_nextToken_b104B N (fn8_nextToken_b104 N g) 2 M = _ ∧ _
    unfold fn8_nextToken_b104B
    rw [nk_k, sk2 sh, nk_dd, e1, e2, if_pos (nI_le (by omega) (by omega))]
    exact fin j M hj hs sh e2 e4 e5
  | succ k ih =>
    intro j fuel M hk hf hj hs sh tp e1 e2 e4 e5
    obtain ⟨g, rfl⟩ : ∃ g, fuel = g + 1 := ⟨fuel - 1, by omega⟩
    have hj' : j < n := by omega
    have st : fn8_nextToken_b104 N (g + 1) 2 M = (if kOf (T j) = 1 then fn8_nextToken_b104 N g 2 (am_wI (am_wJ M 2 5 (wC T s (j + 1 - s))) 2 2 (nI (j + 1))) else fn8_nextToken_b166 N 2 M) := by
      have ev : j + 1 - s = (j - s) + 1 := by omega
      have es : s + (j - s) = j := by omega
      show fn8_nextToken_b104B N (fn8_nextToken_b104 N g) 2 M = _
      unfold fn8_nextToken_b104B
      rw [nk_k, sk2 sh, nk_dd, e1, e2, if_neg (nI_ge hj' (by omega)), sr2_0 sh, nk_k, sk3 sh, nk_dd, sl3 sh, nk_in (by omega) (by decide), nk_ck, nI_clamp (by omega), tp j hj', kOf_ok, nk_bd, nk_k, sk2 sh, nk_dd, sr2_0 sh, nk_k, sk3 sh, nk_dd, e2, sl3 sh, nk_in (by omega) (by decide), nk_ck, nI_clamp (by omega), tp j hj', e5, nI_1, ev]
      show _ = (if kOf (T j) = 1 then fn8_nextToken_b104 N g 2 (am_wI (am_wJ M 2 5 ((wC T s (j - s) <<< ((8 : Int32).toInt64 &&& 63)) + (T (s + (j - s))).toInt64)) 2 2 (nI (j + 1))) else _)
      rw [es]
    rw [st]
    by_cases q : isLt (T j) = true
    · rw [if_pos (kOf_1.mpr q), tkF_yes hj' q]
      have f0 : Fs [2] M (am_wI (am_wJ M 2 5 (wC T s (j + 1 - s))) 2 2 (nI (j + 1))) := fs_trans (fs_wJ _ _ _ List.mem_cons_self) (fs_wI _ _ _ List.mem_cons_self)
      have o : ∀ x, ¬ x = 2 → am_I (am_wI (am_wJ M 2 5 (wC T s (j + 1 - s))) 2 2 (nI (j + 1))) 2 x = am_I M 2 x := fun x h => by rw [rI_ix _ _ _ h, qI_wJ]
      obtain ⟨M', a1, a2, a3, a4, a5, a6⟩ := ih (j + 1) g _ (by omega) (by omega) hj' (by omega) (fs_shp f0 sh) (fun x hx => by rw [fs_I f0 (by decide)]; exact tp x hx) (by rw [o 1 (by decide)]; exact e1) (rI_eq _ _ _ _) (by rw [o 4 (by decide)]; exact e4) (by rw [qJ_wI, rJ_eq])
      exact ⟨M', a1, fs_trans f0 a2, fun x h1 h2 => by rw [a3 x h1 h2, o x h1], a4, a5, a6⟩
    · rw [if_neg (fun z => q (kOf_1.mp z)), tkF_no (fun z => q z.2)]
      exact fin j M hj hs sh e2 e4 e5
theorem nx_num {N n s : Nat} {T : Nat → Int32} (hn : n ≤ 600) : ∀ k j fuel M, n - j = k → k < fuel → j ≤ n → s ≤ j → Shp M → (∀ x, x < n → am_I M 3 x = T x) → am_I M 2 1 = nI n → am_I M 2 2 = nI j → am_I M 2 4 = nI s → am_J M 2 5 = dC T s (j - s) → ∃ M', fn8_nextToken_b201 N fuel 2 M = some ((), M') ∧ Fs [2] M M' ∧ (∀ x, ¬ x = 2 → ¬ x = 3 → am_I M' 2 x = am_I M 2 x) ∧ am_I M' 2 2 = nI (tkF (fun x => isDg (T x)) n j) ∧ am_I M' 2 3 = (if tkF (fun x => isDg (T x)) n j - s ≤ 4 then 2 else 6) ∧ am_J M' 2 5 = dC T s (tkF (fun x => isDg (T x)) n j - s) := by
  have fin : ∀ (j : Nat) (M : am_Mem), j ≤ n → s ≤ j → Shp M → am_I M 2 2 = nI j → am_I M 2 4 = nI s → am_J M 2 5 = dC T s (j - s) → ∃ M', fn8_nextToken_b268 N 2 M = some ((), M') ∧ Fs [2] M M' ∧ (∀ x, ¬ x = 2 → ¬ x = 3 → am_I M' 2 x = am_I M 2 x) ∧ am_I M' 2 2 = nI j ∧ am_I M' 2 3 = (if j - s ≤ 4 then 2 else 6) ∧ am_J M' 2 5 = dC T s (j - s) := by
    intro j M hj hs sh e2 e4 e5
    refine ⟨am_wI M 2 3 (if j - s ≤ 4 then 2 else 6), ?_, fs_wI _ _ _ List.mem_cons_self, fun x _ h => rI_ix _ _ _ h, by rw [rI_ix _ _ _ (by decide)]; exact e2, rI_eq _ _ _ _, by rw [qJ_wI]; exact e5⟩
    unfold fn8_nextToken_b268 fn8_nextToken_b288 fn8_nextToken_b311
    rw [nk_k, sk2 sh, nk_dd, e2, e4, nk_sub _ _ hs]
    by_cases q : j - s ≤ 4
    · rw [if_pos q, if_neg (show ¬ (4 : Int32) < nI (j - s) from Int32.not_lt.mpr (show nI (j - s) ≤ nI 4 from nI_le q (by decide))), nk_dd]
    · rw [if_neg q, if_pos (show (4 : Int32) < nI (j - s) from (show nI 4 < nI (j - s) from nI_lt (by omega) (by omega))), nk_dd]
  intro k
  induction k with
  | zero =>
    intro j fuel M hk hf hj hs sh tp e1 e2 e4 e5
    obtain ⟨g, rfl⟩ : ∃ g, fuel = g + 1 := ⟨fuel - 1, by omega⟩
    have ej : tkF (fun x => isDg (T x)) n j = j := tkF_no (fun q => by omega)
    rw [ej]
    show ∃ M', fn8_nextToken_b201B N (fn8_nextToken_b201 N g) 2 M = _ ∧ _
    unfold fn8_nextToken_b201B
    rw [nk_k, sk2 sh, nk_dd, e1, e2, if_pos (nI_le (by omega) (by omega))]
    exact fin j M hj hs sh e2 e4 e5
  | succ k ih =>
    intro j fuel M hk hf hj hs sh tp e1 e2 e4 e5
    obtain ⟨g, rfl⟩ : ∃ g, fuel = g + 1 := ⟨fuel - 1, by omega⟩
    have hj' : j < n := by omega
    have st : fn8_nextToken_b201 N (g + 1) 2 M = (if kOf (T j) = 2 then fn8_nextToken_b201 N g 2 (am_wI (am_wJ M 2 5 (dC T s (j + 1 - s))) 2 2 (nI (j + 1))) else fn8_nextToken_b268 N 2 M) := by
      have ev : j + 1 - s = (j - s) + 1 := by omega
      have es : s + (j - s) = j := by omega
      show fn8_nextToken_b201B N (fn8_nextToken_b201 N g) 2 M = _
      unfold fn8_nextToken_b201B
      rw [nk_k, sk2 sh, nk_dd, e1, e2, if_neg (nI_ge hj' (by omega)), sr2_0 sh, nk_k, sk3 sh, nk_dd, sl3 sh, nk_in (by omega) (by decide), nk_ck, nI_clamp (by omega), tp j hj', kOf_ok, nk_bd, nk_k, sk2 sh, nk_dd, sr2_0 sh, nk_k, sk3 sh, nk_dd, e2, sl3 sh, nk_in (by omega) (by decide), nk_ck, nI_clamp (by omega), tp j hj', e5, nI_1, ev]
      show _ = (if kOf (T j) = 2 then fn8_nextToken_b201 N g 2 (am_wI (am_wJ M 2 5 (((10 : Int64) * dC T s (j - s) + (T (s + (j - s))).toInt64) - 48)) 2 2 (nI (j + 1))) else _)
      rw [es]
    rw [st]
    by_cases q : isDg (T j) = true
    · rw [if_pos (kOf_2.mpr q), tkF_yes hj' q]
      have f0 : Fs [2] M (am_wI (am_wJ M 2 5 (dC T s (j + 1 - s))) 2 2 (nI (j + 1))) := fs_trans (fs_wJ _ _ _ List.mem_cons_self) (fs_wI _ _ _ List.mem_cons_self)
      have o : ∀ x, ¬ x = 2 → am_I (am_wI (am_wJ M 2 5 (dC T s (j + 1 - s))) 2 2 (nI (j + 1))) 2 x = am_I M 2 x := fun x h => by rw [rI_ix _ _ _ h, qI_wJ]
      obtain ⟨M', a1, a2, a3, a4, a5, a6⟩ := ih (j + 1) g _ (by omega) (by omega) hj' (by omega) (fs_shp f0 sh) (fun x hx => by rw [fs_I f0 (by decide)]; exact tp x hx) (by rw [o 1 (by decide)]; exact e1) (rI_eq _ _ _ _) (by rw [o 4 (by decide)]; exact e4) (by rw [qJ_wI, rJ_eq])
      exact ⟨M', a1, fs_trans f0 a2, fun x h1 h2 => by rw [a3 x h1 h2, o x h1], a4, a5, a6⟩
    · rw [if_neg (fun z => q (kOf_2.mp z)), tkF_no (fun z => q z.2)]
      exact fin j M hj hs sh e2 e4 e5
