theorem nx_52 {N n i : Nat} {T : Nat → Int32} (hN : 100000 ≤ N) (hn : n ≤ 600) (hi : i ≤ n) {M : am_Mem} (sh : Shp M) (tp : ∀ x, x < n → am_I M 3 x = T x) (e1 : am_I M 2 1 = nI n) (e2 : am_I M 2 2 = nI (tkS T n i)) : ∃ M', fn8_nextToken_b52 N 2 M = some ((), M') ∧ Fs [2] M M' ∧ (∀ x, ¬ x = 2 → ¬ x = 3 → ¬ x = 4 → am_I M' 2 x = am_I M 2 x) ∧ TokC T n i M' := by
  have hs := tkS_le (T := T) hi
  have m2 : (2 : Nat) ∈ [2] := List.mem_cons_self
  have st : fn8_nextToken_b52 N 2 M = fn8_nextToken_b93 N 2 (tkB T n i) 2 (am_wJ (am_wI M 2 4 (nI (tkS T n i))) 2 5 0) := by
    unfold fn8_nextToken_b52
    rw [nk_k, sk2 sh, nk_dd, e2, rI_ix _ _ _ (show ¬ 1 = 4 by decide), e1, rI_ix _ _ _ (show ¬ 2 = 4 by decide), e2]
    by_cases q : tkS T n i < n
    · rw [if_neg (nI_ge q (by omega)), sr2_0 sh, nk_k, sk3 sh, nk_dd, sl3 sh, nk_in (by omega) (by decide), nk_ck, rI_ne _ _ _ (show ¬ 3 = 2 by decide), nI_clamp (by omega), tp _ q, kOf_ok, nk_bd]
      unfold tkB
      rw [if_pos q]
    · rw [if_pos (nI_le (by omega) (by omega)), tkB_0.mpr q]
  rw [st]
  have f2 : Fs [2] M (am_wI (am_wJ (am_wI M 2 4 (nI (tkS T n i))) 2 5 0) 2 3 (tkB T n i)) := fs_trans (fs_trans (fs_wI _ _ _ m2) (fs_wJ _ _ _ m2)) (fs_wI _ _ _ m2)
  have o2 : ∀ x, ¬ x = 2 → ¬ x = 3 → ¬ x = 4 → am_I (am_wI (am_wJ (am_wI M 2 4 (nI (tkS T n i))) 2 5 0) 2 3 (tkB T n i)) 2 x = am_I M 2 x := fun x _ h3 h4 => by rw [rI_ix _ _ _ h3, qI_wJ, rI_ix _ _ _ h4]
  have p2 : am_I (am_wI (am_wJ (am_wI M 2 4 (nI (tkS T n i))) 2 5 0) 2 3 (tkB T n i)) 2 2 = nI (tkS T n i) := by rw [rI_ix _ _ _ (by decide), qI_wJ, rI_ix _ _ _ (by decide), e2]
  have p3 : am_I (am_wI (am_wJ (am_wI M 2 4 (nI (tkS T n i))) 2 5 0) 2 3 (tkB T n i)) 2 3 = tkB T n i := rI_eq _ _ _ _
  have p4 : am_I (am_wI (am_wJ (am_wI M 2 4 (nI (tkS T n i))) 2 5 0) 2 3 (tkB T n i)) 2 4 = nI (tkS T n i) := by rw [rI_ix _ _ _ (by decide), qI_wJ, rI_eq]
  have p5 : am_J (am_wI (am_wJ (am_wI M 2 4 (nI (tkS T n i))) 2 5 0) 2 3 (tkB T n i)) 2 5 = 0 := by rw [qJ_wI, rJ_eq]
  have st2 : fn8_nextToken_b93 N 2 (tkB T n i) 2 (am_wJ (am_wI M 2 4 (nI (tkS T n i))) 2 5 0) = (if tkB T n i = 1 then fn8_nextToken_b104 N N 2 (am_wI (am_wJ (am_wI M 2 4 (nI (tkS T n i))) 2 5 0) 2 3 (tkB T n i)) else if tkB T n i = 2 then fn8_nextToken_b201 N N 2 (am_wI (am_wJ (am_wI M 2 4 (nI (tkS T n i))) 2 5 0) 2 3 (tkB T n i)) else if tkB T n i = 0 then some ((), am_wI (am_wJ (am_wI M 2 4 (nI (tkS T n i))) 2 5 0) 2 3 (tkB T n i)) else some ((), am_wI (am_wI (am_wJ (am_wI M 2 4 (nI (tkS T n i))) 2 5 0) 2 3 (tkB T n i)) 2 2 (nI (tkS T n i + 1)))) := by
    unfold fn8_nextToken_b93 fn8_nextToken_b311
    rw [nk_k, qK_wJ, qK_wI, sk2 sh, nk_dd, nk_dd, p3, p2, nI_1]
  rw [st2]
  have sh2 := fs_shp f2 sh
  have tp2 : ∀ x, x < n → am_I (am_wI (am_wJ (am_wI M 2 4 (nI (tkS T n i))) 2 5 0) 2 3 (tkB T n i)) 3 x = T x := fun x hx => by rw [fs_I f2 (by decide)]; exact tp x hx
  have q1 := (o2 1 (by decide) (by decide) (by decide)).trans e1
  revert f2 o2 p2 p3 p4 p5 sh2 tp2 q1
  generalize am_wI (am_wJ (am_wI M 2 4 (nI (tkS T n i))) 2 5 0) 2 3 (tkB T n i) = M2
  intro f2 o2 p2 p3 p4 p5 sh2 tp2 q1
  have z0 : tkS T n i - tkS T n i = 0 := Nat.sub_self _
  by_cases b1 : tkB T n i = 1
  · rw [if_pos b1]
    have eE : tkE T n i = tkF (fun j => isLt (T j)) n (tkS T n i) := by unfold tkE; rw [if_pos b1]
    have eK : tkK T n i = if tkE T n i - tkS T n i ≤ 6 then 1 else 6 := by unfold tkK; rw [if_pos b1]
    obtain ⟨M', a1, a2, a3, a4, a5, a6⟩ := nx_word (N := N) (s := tkS T n i) hn (n - tkS T n i) (tkS T n i) N M2 rfl (by omega) hs (Nat.le_refl _) sh2 tp2 q1 p2 p4 (by rw [z0]; exact p5)
    rw [← eE] at a4 a5 a6
    refine ⟨M', a1, fs_trans f2 a2, fun x h1 h2 h3 => by rw [a3 x h1 h2, o2 x h1 h2 h3], ?_, a4, by rw [eK]; exact a5, ?_, fun _ => a6, fun b2 => absurd (b1.symm.trans b2) (by decide)⟩
    · rw [a3 1 (by decide) (by decide)]; exact q1
    · rw [a3 4 (by decide) (by decide)]; exact p4
  · rw [if_neg b1]
    by_cases b2 : tkB T n i = 2
    · rw [if_pos b2]
      have eE : tkE T n i = tkF (fun j => isDg (T j)) n (tkS T n i) := by unfold tkE; rw [if_neg b1, if_pos b2]
      have eK : tkK T n i = if tkE T n i - tkS T n i ≤ 4 then 2 else 6 := by unfold tkK; rw [if_neg b1, if_pos b2]
      obtain ⟨M', a1, a2, a3, a4, a5, a6⟩ := nx_num (N := N) (s := tkS T n i) hn (n - tkS T n i) (tkS T n i) N M2 rfl (by omega) hs (Nat.le_refl _) sh2 tp2 q1 p2 p4 (by rw [z0]; exact p5)
      rw [← eE] at a4 a5 a6
      refine ⟨M', a1, fs_trans f2 a2, fun x h1 h2 h3 => by rw [a3 x h1 h2, o2 x h1 h2 h3], ?_, a4, by rw [eK]; exact a5, ?_, fun b => absurd b b1, fun _ => a6⟩
      · rw [a3 1 (by decide) (by decide)]; exact q1
      · rw [a3 4 (by decide) (by decide)]; exact p4
    · rw [if_neg b2]
      have eK : tkK T n i = tkB T n i := by unfold tkK; rw [if_neg b1, if_neg b2]
      by_cases b0 : tkB T n i = 0
      · rw [if_pos b0]
        have eE : tkE T n i = tkS T n i := by unfold tkE; rw [if_neg b1, if_neg b2, if_pos b0]
        exact ⟨M2, rfl, f2, o2, q1, by rw [eE]; exact p2, by rw [eK]; exact p3, p4, fun b => absurd b b1, fun b => absurd b b2⟩
      · rw [if_neg b0]
        have eE : tkE T n i = tkS T n i + 1 := by unfold tkE; rw [if_neg b1, if_neg b2, if_neg b0]
        refine ⟨_, rfl, fs_trans f2 (fs_wI _ _ _ m2), fun x h1 h2 h3 => by rw [rI_ix _ _ _ h1, o2 x h1 h2 h3], ?_, ?_, ?_, ?_, fun b => absurd b b1, fun b => absurd b b2⟩
        · rw [rI_ix _ _ _ (by decide)]; exact q1
        · rw [rI_eq, eE]
        · rw [rI_ix _ _ _ (by decide), eK]; exact p3
        · rw [rI_ix _ _ _ (by decide)]; exact p4
theorem nx_sp {N n : Nat} {T : Nat → Int32} (hn : n ≤ 600) : ∀ k j fuel M, n - j = k → k < fuel → j ≤ n → Shp M → (∀ x, x < n → am_I M 3 x = T x) → am_I M 2 1 = nI n → am_I M 2 2 = nI j → ∃ M', fn8_nextToken_b0 N fuel 2 M = fn8_nextToken_b52 N 2 M' ∧ Fs [2] M M' ∧ (∀ x, ¬ x = 2 → am_I M' 2 x = am_I M 2 x) ∧ am_I M' 2 2 = nI (tkS T n j) := by
  intro k
  induction k with
  | zero =>
    intro j fuel M hk hf hj sh tp e1 e2
    obtain ⟨g, rfl⟩ : ∃ g, fuel = g + 1 := ⟨fuel - 1, by omega⟩
    refine ⟨M, ?_, fs_refl _ _, fun _ _ => rfl, by unfold tkS; rw [tkF_no (fun q => by omega)]; exact e2⟩
    show fn8_nextToken_b0B N (fn8_nextToken_b0 N g) 2 M = _
    unfold fn8_nextToken_b0B
    rw [nk_k, sk2 sh, nk_dd, e1, e2, if_pos (nI_le (by omega) (by omega))]
  | succ k ih =>
    intro j fuel M hk hf hj sh tp e1 e2
    obtain ⟨g, rfl⟩ : ∃ g, fuel = g + 1 := ⟨fuel - 1, by omega⟩
    have hj' : j < n := by omega
    have st : fn8_nextToken_b0 N (g + 1) 2 M = (if T j = 32 then fn8_nextToken_b0 N g 2 (am_wI M 2 2 (nI (j + 1))) else if T j = 10 then fn8_nextToken_b0 N g 2 (am_wI M 2 2 (nI (j + 1))) else fn8_nextToken_b52 N 2 M) := by
      have hin : am_in (nI j) 600 = true := nk_in (by omega) (by decide)
      have hcl : (nI j).toNatClampNeg = j := nI_clamp (by omega)
      have hle : ¬ nI n ≤ nI j := nI_ge hj' (by omega)
      show fn8_nextToken_b0B N (fn8_nextToken_b0 N g) 2 M = _
      unfold fn8_nextToken_b0B fn8_nextToken_b39
      simp only [nk_k, sk2 sh, sr2_0 sh, sk3 sh, sl3 sh, eq_self, decide_true, nk_ck, e1, e2, hle, if_false, hin, hcl, tp j hj', nI_1]
    rw [st]
    have f0 : Fs [2] M (am_wI M 2 2 (nI (j + 1))) := fs_wI _ _ _ List.mem_cons_self
    have go : isSp (T j) = true → ∃ M', fn8_nextToken_b0 N g 2 (am_wI M 2 2 (nI (j + 1))) = fn8_nextToken_b52 N 2 M' ∧ Fs [2] M M' ∧ (∀ x, ¬ x = 2 → am_I M' 2 x = am_I M 2 x) ∧ am_I M' 2 2 = nI (tkS T n j) := by
      intro q
      obtain ⟨M', a1, a2, a3, a4⟩ := ih (j + 1) g (am_wI M 2 2 (nI (j + 1))) (by omega) (by omega) hj' (fs_shp f0 sh) (fun x hx => by rw [fs_I f0 (by decide)]; exact tp x hx) (by rw [rI_ix _ _ _ (by decide)]; exact e1) (rI_eq _ _ _ _)
      refine ⟨M', a1, fs_trans f0 a2, fun x h => by rw [a3 x h, rI_ix _ _ _ h], ?_⟩
      rw [a4]
      unfold tkS
      rw [tkF_yes hj' q]
    by_cases q1 : T j = 32
    · rw [if_pos q1]
      exact go (by unfold isSp; rw [q1]; rfl)
    · rw [if_neg q1]
      by_cases q2 : T j = 10
      · rw [if_pos q2]
        exact go (by unfold isSp; rw [q2]; rfl)
      · rw [if_neg q2]
        refine ⟨M, rfl, fs_refl _ _, fun _ _ => rfl, ?_⟩
        unfold tkS
        rw [tkF_no (fun z => by
          have := z.2
          unfold isSp at this
          rw [decide_eq_false q1, decide_eq_false q2] at this
          exact absurd this (by decide))]
        exact e2
/-- the class's next token -/
theorem nx_c {N n i : Nat} {T : Nat → Int32} (hN : 100000 ≤ N) (hn : n ≤ 600) (hi : i ≤ n) {M : am_Mem} (sh : Shp M) (tp : ∀ x, x < n → am_I M 3 x = T x) (e1 : am_I M 2 1 = nI n) (e2 : am_I M 2 2 = nI i) : ∃ M', fn8_nextToken N M 2 = some ((), M') ∧ Fs [2] M M' ∧ (∀ x, ¬ x = 2 → ¬ x = 3 → ¬ x = 4 → am_I M' 2 x = am_I M 2 x) ∧ TokC T n i M' := by
  obtain ⟨M1, a1, a2, a3, a4⟩ := nx_sp (N := N) hn (n - i) i N M rfl (by omega) hi sh tp e1 e2
  obtain ⟨M2, b1, b2, b3, b4⟩ := nx_52 (N := N) hN hn hi (fs_shp a2 sh) (fun x hx => by rw [fs_I a2 (by decide)]; exact tp x hx) ((a3 1 (by decide)).trans e1) a4
  refine ⟨M2, ?_, fs_trans a2 b2, fun x h1 h2 h3 => by rw [b3 x h1 h2 h3, a3 x h1], b4⟩
  unfold fn8_nextToken
  rw [a1, b1]
