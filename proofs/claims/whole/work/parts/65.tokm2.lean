theorem isSp_iff {x : Int32} : isSp x = true ↔ x = 32 ∨ x = 10 := by
  unfold isSp; rw [Bool.or_eq_true, decide_eq_true_eq, decide_eq_true_eq]
/-- the reference's new token, before it is known -/
def bsM (M : am_Mem) (j : Nat) : am_Mem := am_wJ (am_wI (am_wI (am_wI M 110 5 (nI (j + 1))) 110 6 4) 110 7 0) 110 8 0
theorem bs_fs (M : am_Mem) (j : Nat) : Fs [110] M (bsM M j) :=
  fs_trans (fs_trans (fs_trans (fs_wI _ _ _ List.mem_cons_self) (fs_wI _ _ _ List.mem_cons_self)) (fs_wI _ _ _ List.mem_cons_self)) (fs_wJ _ _ _ List.mem_cons_self)
theorem bs_o (M : am_Mem) (j : Nat) {x : Nat} (h5 : ¬ x = 5) (h6 : ¬ x = 6) (h7 : ¬ x = 7) : am_I (bsM M j) 110 x = am_I M 110 x := by
  unfold bsM; rw [qI_wJ, rI_ix _ _ _ h7, rI_ix _ _ _ h6, rI_ix _ _ _ h5]
theorem bs_5 (M : am_Mem) (j : Nat) : am_I (bsM M j) 110 5 = nI (j + 1) := by
  unfold bsM; rw [qI_wJ, rI_ix _ _ _ (by decide), rI_ix _ _ _ (by decide), rI_eq]
theorem bs_6 (M : am_Mem) (j : Nat) : am_I (bsM M j) 110 6 = 4 := by
  unfold bsM; rw [qI_wJ, rI_ix _ _ _ (by decide), rI_eq]
theorem bs_7 (M : am_Mem) (j : Nat) : am_I (bsM M j) 110 7 = 0 := by
  unfold bsM; rw [qI_wJ, rI_eq]
theorem bs_8 (M : am_Mem) (j : Nat) : am_J (bsM M j) 110 8 = 0 := by
  unfold bsM; rw [rJ_eq]
theorem sx_at {N n i g : Nat} {T : Nat → Int32} (hN : 100000 ≤ N) (hn : n ≤ 600) (hB : ∀ x, x < n → isB (T x)) (hi : i ≤ n) {M : am_Mem} (sh : Shp M) (tp : ∀ x, x < n → am_I M 111 x = T x) (e3 : am_I M 110 3 = nI n) (e4 : am_I M 110 4 = nI (tkS T n i)) : ∃ M', fn12_steps_b8 N (g + 1) 110 M = some ((), M') ∧ Fs [110] M M' ∧ (∀ x, ¬ x = 5 → ¬ x = 6 → ¬ x = 7 → am_I M' 110 x = am_I M 110 x) ∧ TokM T n i M' := by
  have hs := tkS_le (T := T) hi
  have m110 : (110 : Nat) ∈ [110] := List.mem_cons_self
  have nsp : ¬ (tkS T n i < n ∧ isSp (T (tkS T n i)) = true) := tkF_end _ i rfl
  have n32 : ¬ seV T n (tkS T n i) = 32 := fun q => nsp ⟨((se_is hB (by decide)).mp q).1, isSp_iff.mpr (Or.inl ((se_is hB (by decide)).mp q).2)⟩
  have n10 : ¬ seV T n (tkS T n i) = 10 := fun q => nsp ⟨((se_is hB (by decide)).mp q).1, isSp_iff.mpr (Or.inr ((se_is hB (by decide)).mp q).2)⟩
  have st : fn12_steps_b8 N (g + 1) 110 M = (if seV T n (tkS T n i) = -1 then some ((), am_wI (am_wI (bsM M (tkS T n i)) 110 5 (nI (tkS T n i))) 110 6 0) else if seV T n (tkS T n i) = 59 then some ((), am_wI (bsM M (tkS T n i)) 110 6 3) else if seV T n (tkS T n i) = 40 then some ((), am_wI (bsM M (tkS T n i)) 110 6 5) else if seV T n (tkS T n i) = 41 then some ((), am_wI (bsM M (tkS T n i)) 110 6 6) else if 97 ≤ seV T n (tkS T n i) ∧ seV T n (tkS T n i) ≤ 122 then fn12_steps_b167 N N 110 (am_wI (bsM M (tkS T n i)) 110 5 (nI (tkS T n i))) else if 48 ≤ seV T n (tkS T n i) ∧ seV T n (tkS T n i) ≤ 57 then fn12_steps_b294 N N 110 (am_wI (bsM M (tkS T n i)) 110 5 (nI (tkS T n i))) else some ((), bsM M (tkS T n i))) := by
    have se := se_ok (T := T) sh e3 tp hn hs
    have kb : am_K (bsM M (tkS T n i)) 110 = 12 := sk110 (fs_shp (bs_fs M _) sh)
    have b4 : am_I (bsM M (tkS T n i)) 110 4 = nI (tkS T n i) := (bs_o M _ (by decide) (by decide) (by decide)).trans e4
    have b4' : am_I (am_wI (am_wI (am_wI M 110 5 (nI (tkS T n i + 1))) 110 6 4) 110 7 0) 110 4 = nI (tkS T n i) := by
      rw [rI_ix _ _ _ (by decide), rI_ix _ _ _ (by decide), rI_ix _ _ _ (by decide)]; exact e4
    show fn12_steps_b8B N (fn12_steps_b8 N g) 110 M = _
    unfold fn12_steps_b8B fn12_steps_b393
    rw [nk_k, sk110 sh, nk_dd, e4, se, nk_bd, if_neg n32, nk_k, sk110 sh, nk_dd, e4, se, nk_bd, if_neg n10, nk_k, sk110 sh, nk_dd, e4, se, nk_bd, nk_k, sk110 sh, nk_dd, e4, nI_1, b4']
    by_cases q1 : seV T n (tkS T n i) = -1
    · rw [if_pos q1, if_pos q1]; rfl
    · rw [if_neg q1, if_neg q1]
      by_cases q2 : seV T n (tkS T n i) = 59
      · rw [if_pos q2, if_pos q2]; rfl
      · rw [if_neg q2, if_neg q2]
        by_cases q3 : seV T n (tkS T n i) = 40
        · rw [if_pos q3, if_pos q3]; rfl
        · rw [if_neg q3, if_neg q3]
          by_cases q4 : seV T n (tkS T n i) = 41
          · rw [if_pos q4, if_pos q4]; rfl
          · rw [if_neg q4, if_neg q4, wi_lt, nk_bd]
            show (if (if 97 ≤ seV T n (tkS T n i) ∧ seV T n (tkS T n i) ≤ 122 then (1 : Int32) else 0) = 0 then am_bd (fn12_within (bsM M (tkS T n i)) (seV T n (tkS T n i)).toInt64 48 57) (fun v17 M18 => if v17 = 0 then some ((), M18) else am_ck (am_k M18 110 12) (fn12_steps_b294 N N 110 (am_wI M18 110 5 (am_I M18 110 4)))) else am_ck (am_k (bsM M (tkS T n i)) 110 12) (fn12_steps_b167 N N 110 (am_wI (bsM M (tkS T n i)) 110 5 (am_I (bsM M (tkS T n i)) 110 4)))) = _
            by_cases q5 : 97 ≤ seV T n (tkS T n i) ∧ seV T n (tkS T n i) ≤ 122
            · rw [if_pos q5, if_neg z_1, if_pos q5, nk_k, kb, nk_dd, b4]
            · rw [if_neg q5, if_pos rfl, if_neg q5, wi_dg, nk_bd]
              by_cases q6 : 48 ≤ seV T n (tkS T n i) ∧ seV T n (tkS T n i) ≤ 57
              · rw [if_pos q6, if_neg z_1, if_pos q6, nk_k, kb, nk_dd, b4]
              · rw [if_neg q6, if_pos rfl, if_neg q6]
  rw [st]
  have fb := bs_fs M (tkS T n i)
  have ob := fun {x : Nat} => bs_o M (tkS T n i) (x := x)
  have p5 := bs_5 M (tkS T n i)
  have p6 := bs_6 M (tkS T n i)
  have p7 := bs_7 M (tkS T n i)
  have p8 := bs_8 M (tkS T n i)
  revert fb ob p5 p6 p7 p8
  generalize bsM M (tkS T n i) = M2
  intro fb ob p5 p6 p7 p8
  have q3 := (ob (x := 3) (by decide) (by decide) (by decide)).trans e3
  have q4 := (ob (x := 4) (by decide) (by decide) (by decide)).trans e4
  have z0 : tkS T n i - tkS T n i = 0 := Nat.sub_self _
  by_cases hsn : tkS T n i < n
  case neg =>
    have b0 : tkB T n i = 0 := tkB_0.mpr hsn
    have b1 : ¬ tkB T n i = 1 := by rw [b0]; decide
    have b2 : ¬ tkB T n i = 2 := by rw [b0]; decide
    have eE : tkE T n i = tkS T n i := by unfold tkE; rw [if_neg b1, if_neg b2, if_pos b0]
    have eK : tkK T n i = 0 := by unfold tkK; rw [if_neg b1, if_neg b2, b0]
    rw [if_pos ((se_end hB).mpr hsn)]
    refine ⟨_, rfl, fs_trans fb (fs_trans (fs_wI _ _ _ m110) (fs_wI _ _ _ m110)), fun x h5 h6 h7 => by rw [rI_ix _ _ _ h6, rI_ix _ _ _ h5, ob h5 h6 h7], ?_, ?_, ?_, ?_, fun b => absurd b b1, fun b => absurd b b2⟩
    · rw [rI_ix _ _ _ (by decide), rI_ix _ _ _ (by decide)]; exact q3
    · rw [rI_ix _ _ _ (by decide), rI_ix _ _ _ (by decide)]; exact q4
    · rw [rI_ix _ _ _ (by decide), rI_eq, eE]
    · rw [rI_eq, eK]; rfl
  rw [if_neg (fun q => ((se_end hB).mp q) hsn)]
  have eB : tkB T n i = kOf (T (tkS T n i)) := by unfold tkB; rw [if_pos hsn]
  have sgn : ∀ (c v : Int32), kOf (T (tkS T n i)) = c → ¬ c = 0 → ¬ c = 1 → ¬ c = 2 → kM c = v → ∃ M', (some ((), am_wI M2 110 6 v) : Option (Unit × am_Mem)) = some ((), M') ∧ Fs [110] M M' ∧ (∀ x, ¬ x = 5 → ¬ x = 6 → ¬ x = 7 → am_I M' 110 x = am_I M 110 x) ∧ TokM T n i M' := by
    intro c v hk c0 c1 c2 hv
    have b1 : ¬ tkB T n i = 1 := by rw [eB, hk]; exact c1
    have b2 : ¬ tkB T n i = 2 := by rw [eB, hk]; exact c2
    have b0 : ¬ tkB T n i = 0 := by rw [eB, hk]; exact c0
    have eE : tkE T n i = tkS T n i + 1 := by unfold tkE; rw [if_neg b1, if_neg b2, if_neg b0]
    have eK : tkK T n i = c := by unfold tkK; rw [if_neg b1, if_neg b2, eB, hk]
    refine ⟨_, rfl, fs_trans fb (fs_wI _ _ _ m110), fun x h5 h6 h7 => by rw [rI_ix _ _ _ h6, ob h5 h6 h7], ?_, ?_, ?_, ?_, fun b => absurd b b1, fun b => absurd b b2⟩
    · rw [rI_ix _ _ _ (by decide)]; exact q3
    · rw [rI_ix _ _ _ (by decide)]; exact q4
    · rw [rI_ix _ _ _ (by decide), eE]; exact p5
    · rw [rI_eq, eK, hv]
  by_cases c59 : T (tkS T n i) = 59
  · rw [if_pos ((se_is hB (by decide)).mpr ⟨hsn, c59⟩)]
    exact sgn 5 3 (by rw [c59]; decide) (by decide) (by decide) (by decide) (by decide)
  rw [if_neg (fun q => c59 ((se_is hB (by decide)).mp q).2)]
  by_cases c40 : T (tkS T n i) = 40
  · rw [if_pos ((se_is hB (by decide)).mpr ⟨hsn, c40⟩)]
    exact sgn 3 5 (by rw [c40]; decide) (by decide) (by decide) (by decide) (by decide)
  rw [if_neg (fun q => c40 ((se_is hB (by decide)).mp q).2)]
  by_cases c41 : T (tkS T n i) = 41
  · rw [if_pos ((se_is hB (by decide)).mpr ⟨hsn, c41⟩)]
    exact sgn 4 6 (by rw [c41]; decide) (by decide) (by decide) (by decide) (by decide)
  rw [if_neg (fun q => c41 ((se_is hB (by decide)).mp q).2)]
  have f5 : Fs [110] M (am_wI M2 110 5 (nI (tkS T n i))) := fs_trans fb (fs_wI _ _ _ m110)
  have sh5 := fs_shp f5 sh
  have tp5 : ∀ x, x < n → am_I (am_wI M2 110 5 (nI (tkS T n i))) 111 x = T x := fun x hx => by rw [fs_I f5 (by decide)]; exact tp x hx
  have o5 : ∀ x, ¬ x = 5 → am_I (am_wI M2 110 5 (nI (tkS T n i))) 110 x = am_I M2 110 x := fun x h => rI_ix _ _ _ h
  by_cases cL : isLt (T (tkS T n i)) = true
  · rw [if_pos ((se_lt hB).mpr ⟨hsn, cL⟩)]
    have b1 : tkB T n i = 1 := by rw [eB]; exact kOf_1.mpr cL
    have eE : tkE T n i = tkF (fun j => isLt (T j)) n (tkS T n i) := by unfold tkE; rw [if_pos b1]
    have eK : tkK T n i = if tkE T n i - tkS T n i ≤ 6 then 1 else 6 := by unfold tkK; rw [if_pos b1]
    obtain ⟨M', a1, a2, a3, a4, a5, a6⟩ := sx_word (N := N) (s := tkS T n i) hn hB (n - tkS T n i) (tkS T n i) N (am_wI M2 110 5 (nI (tkS T n i))) rfl (by omega) hs (Nat.le_refl _) sh5 tp5 (by rw [o5 3 (by decide)]; exact q3) (rI_eq _ _ _ _) (by rw [o5 4 (by decide)]; exact q4) (by rw [z0, qJ_wI]; exact p8)
    rw [← eE] at a4 a5 a6
    refine ⟨M', a1, fs_trans f5 a2, fun x h5 h6 h7 => by rw [a3 x h5 h6, o5 x h5, ob h5 h6 h7], ?_, ?_, a4, ?_, fun _ => a6, fun b => absurd (b1.symm.trans b) (by decide)⟩
    · rw [a3 3 (by decide) (by decide), o5 3 (by decide)]; exact q3
    · rw [a3 4 (by decide) (by decide), o5 4 (by decide)]; exact q4
    · rw [a5, eK]
      split <;> rfl
  rw [if_neg (fun q => cL ((se_lt hB).mp q).2)]
  by_cases cD : isDg (T (tkS T n i)) = true
  · rw [if_pos ((se_dg hB).mpr ⟨hsn, cD⟩)]
    have b2 : tkB T n i = 2 := by rw [eB]; exact kOf_2.mpr cD
    have b1 : ¬ tkB T n i = 1 := by rw [b2]; decide
    have eE : tkE T n i = tkF (fun j => isDg (T j)) n (tkS T n i) := by unfold tkE; rw [if_neg b1, if_pos b2]
    have eK : tkK T n i = if tkE T n i - tkS T n i ≤ 4 then 2 else 6 := by unfold tkK; rw [if_neg b1, if_pos b2]
    obtain ⟨M', a1, a2, a3, aJ, a4, a5, a6⟩ := sx_num (N := N) (s := tkS T n i) hn hB (n - tkS T n i) (tkS T n i) N (am_wI M2 110 5 (nI (tkS T n i))) rfl (by omega) hs (Nat.le_refl _) sh5 tp5 (by rw [o5 3 (by decide)]; exact q3) (rI_eq _ _ _ _) (by rw [o5 4 (by decide)]; exact q4) (by rw [z0, o5 7 (by decide)]; exact p7)
    rw [← eE] at a4 a5 a6
    refine ⟨M', a1, fs_trans f5 a2, fun x h5 h6 h7 => by rw [a3 x h5 h6 h7, o5 x h5, ob h5 h6 h7], ?_, ?_, a4, ?_, fun b => absurd b b1, fun _ => a6⟩
    · rw [a3 3 (by decide) (by decide) (by decide), o5 3 (by decide)]; exact q3
    · rw [a3 4 (by decide) (by decide) (by decide), o5 4 (by decide)]; exact q4
    · rw [a5, eK]
      split <;> rfl
  rw [if_neg (fun q => cD ((se_dg hB).mp q).2)]
  have k6 : kOf (T (tkS T n i)) = 6 := by unfold kOf; rw [if_neg cL, if_neg cD, if_neg c40, if_neg c41, if_neg c59]
  have b1 : ¬ tkB T n i = 1 := by rw [eB, k6]; decide
  have b2 : ¬ tkB T n i = 2 := by rw [eB, k6]; decide
  have b0 : ¬ tkB T n i = 0 := by rw [eB, k6]; decide
  have eE : tkE T n i = tkS T n i + 1 := by unfold tkE; rw [if_neg b1, if_neg b2, if_neg b0]
  have eK : tkK T n i = 6 := by unfold tkK; rw [if_neg b1, if_neg b2, eB, k6]
  exact ⟨M2, rfl, fb, fun x h5 h6 h7 => ob h5 h6 h7, q3, q4, by rw [eE]; exact p5, by rw [p6, eK]; rfl, fun b => absurd b b1, fun b => absurd b b2⟩
theorem sx_sp {N n : Nat} {T : Nat → Int32} (hn : n ≤ 600) (hB : ∀ x, x < n → isB (T x)) : ∀ k j fuel M, n - j = k → k < fuel → j ≤ n → Shp M → (∀ x, x < n → am_I M 111 x = T x) → am_I M 110 3 = nI n → am_I M 110 4 = nI j → ∃ g M', fn12_steps_b8 N fuel 110 M = fn12_steps_b8 N (g + 1) 110 M' ∧ Fs [110] M M' ∧ (∀ x, ¬ x = 4 → am_I M' 110 x = am_I M 110 x) ∧ am_I M' 110 4 = nI (tkS T n j) := by
  intro k
  induction k with
  | zero =>
    intro j fuel M hk hf hj sh tp e3 e4
    obtain ⟨g, rfl⟩ : ∃ g, fuel = g + 1 := ⟨fuel - 1, by omega⟩
    exact ⟨g, M, rfl, fs_refl _ _, fun _ _ => rfl, by unfold tkS; rw [tkF_no (fun q => by omega)]; exact e4⟩
  | succ k ih =>
    intro j fuel M hk hf hj sh tp e3 e4
    obtain ⟨g, rfl⟩ : ∃ g, fuel = g + 1 := ⟨fuel - 1, by omega⟩
    have hj' : j < n := by omega
    by_cases q : isSp (T j) = true
    · have st : fn12_steps_b8 N (g + 1) 110 M = fn12_steps_b8 N g 110 (am_wI M 110 4 (nI (j + 1))) := by
        have se := se_ok (T := T) sh e3 tp hn hj
        show fn12_steps_b8B N (fn12_steps_b8 N g) 110 M = _
        unfold fn12_steps_b8B fn12_steps_b34
        rcases isSp_iff.mp q with q1 | q1
        · rw [nk_k, sk110 sh, nk_dd, e4, se, nk_bd, if_pos ((se_is hB (by decide)).mpr ⟨hj', q1⟩), nk_k, sk110 sh, nk_dd, e4, nI_1]
        · rw [nk_k, sk110 sh, nk_dd, e4, se, nk_bd, if_neg (fun z => absurd (q1.symm.trans ((se_is hB (by decide)).mp z).2) (by decide)), nk_k, sk110 sh, nk_dd, e4, se, nk_bd, if_pos ((se_is hB (by decide)).mpr ⟨hj', q1⟩), nk_k, sk110 sh, nk_dd, e4, nI_1]
      have f0 : Fs [110] M (am_wI M 110 4 (nI (j + 1))) := fs_wI _ _ _ List.mem_cons_self
      obtain ⟨g', M', a1, a2, a3, a4⟩ := ih (j + 1) g (am_wI M 110 4 (nI (j + 1))) (by omega) (by omega) hj' (fs_shp f0 sh) (fun x hx => by rw [fs_I f0 (by decide)]; exact tp x hx) (by rw [rI_ix _ _ _ (by decide)]; exact e3) (rI_eq _ _ _ _)
      refine ⟨g', M', by rw [st, a1], fs_trans f0 a2, fun x h => by rw [a3 x h, rI_ix _ _ _ h], ?_⟩
      rw [a4]
      unfold tkS
      rw [tkF_yes hj' q]
    · refine ⟨g, M, rfl, fs_refl _ _, fun _ _ => rfl, ?_⟩
      unfold tkS
      rw [tkF_no (fun z => q z.2)]
      exact e4
/-- the reference's next token -/
theorem sx_ok {N n i : Nat} {T : Nat → Int32} (hN : 100000 ≤ N) (hn : n ≤ 600) (hB : ∀ x, x < n → isB (T x)) (hi : i ≤ n) {M : am_Mem} (sh : Shp M) (tp : ∀ x, x < n → am_I M 111 x = T x) (e3 : am_I M 110 3 = nI n) (e5 : am_I M 110 5 = nI i) : ∃ M', fn12_steps N M 110 = some ((), M') ∧ Fs [110] M M' ∧ (∀ x, ¬ x = 4 → ¬ x = 5 → ¬ x = 6 → ¬ x = 7 → am_I M' 110 x = am_I M 110 x) ∧ TokM T n i M' := by
  have f0 : Fs [110] M (am_wI M 110 4 (nI i)) := fs_wI _ _ _ List.mem_cons_self
  obtain ⟨g, M1, a1, a2, a3, a4⟩ := sx_sp (N := N) hn hB (n - i) i N (am_wI M 110 4 (nI i)) rfl (by omega) hi (fs_shp f0 sh) (fun x hx => by rw [fs_I f0 (by decide)]; exact tp x hx) (by rw [rI_ix _ _ _ (by decide)]; exact e3) (rI_eq _ _ _ _)
  have f1 := fs_trans f0 a2
  obtain ⟨M2, b1, b2, b3, b4⟩ := sx_at (N := N) (g := g) hN hn hB hi (fs_shp f1 sh) (fun x hx => by rw [fs_I f1 (by decide)]; exact tp x hx) (by rw [a3 3 (by decide), rI_ix _ _ _ (by decide)]; exact e3) a4
  refine ⟨M2, ?_, fs_trans f1 b2, fun x h4 h5 h6 h7 => by rw [b3 x h5 h6 h7, a3 x h4, rI_ix _ _ _ h4], b4⟩
  unfold fn12_steps fn12_steps_b0
  rw [nk_k, sk110 sh, nk_dd, e5, a1, b1]
