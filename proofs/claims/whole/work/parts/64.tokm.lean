def uB (x : Int32) : Int32 := x &&& 255
abbrev Byt (x : Int32) : Prop := (uB x = 32 ↔ x = 32) ∧ (uB x = 10 ↔ x = 10) ∧ (uB x = 59 ↔ x = 59) ∧ (uB x = 40 ↔ x = 40) ∧ (uB x = 41 ↔ x = 41) ∧ ¬ uB x = -1 ∧ ((97 ≤ uB x ∧ uB x ≤ 122) ↔ isLt x = true) ∧ ((48 ≤ uB x ∧ uB x ≤ 57) ↔ isDg x = true) ∧ (isLt x = true → uB x = x) ∧ (isDg x = true → uB x = x)
theorem byt_all : ∀ b : BitVec 8, Byt (Int8.ofBitVec b).toInt32 := by decide +kernel
theorem byt_ok {x : Int32} (h : isB x) : Byt x := by
  have := byt_all x.toInt8.toBitVec
  have e : (Int8.ofBitVec x.toInt8.toBitVec).toInt32 = x := h.symm
  rw [e] at this
  exact this
/-- what the reference sees at a place -/
def seV (T : Nat → Int32) (n j : Nat) : Int32 := if j < n then uB (T j) else -1
theorem se_ok {M : am_Mem} {T : Nat → Int32} {n j : Nat} (sh : Shp M) (e3 : am_I M 110 3 = nI n) (tp : ∀ x, x < n → am_I M 111 x = T x) (hn : n ≤ 600) (hj : j ≤ n) : fn12_see M 110 (nI j) = some (seV T n j, M) := by
  unfold fn12_see fn12_see_b0 fn12_see_b22 seV
  rw [nk_k, sk110 sh, nk_dd, e3]
  by_cases q : j < n
  · rw [if_neg (nI_ge q (by omega)), sr110_1 sh, nk_k, sk111 sh, nk_dd, sl111 sh, nk_in (by omega) (by decide), nk_ck, nI_clamp (by omega), tp j q, if_pos q]
    rfl
  · rw [if_pos (nI_le (by omega) (by omega)), if_neg q]
section
variable {T : Nat → Int32} {n : Nat}
theorem se_lt (hB : ∀ x, x < n → isB (T x)) {j : Nat} : (97 ≤ seV T n j ∧ seV T n j ≤ 122) ↔ (j < n ∧ isLt (T j) = true) := by
  unfold seV
  by_cases q : j < n
  · rw [if_pos q, (byt_ok (hB j q)).2.2.2.2.2.2.1]
    exact ⟨fun h => ⟨q, h⟩, fun h => h.2⟩
  · rw [if_neg q]
    exact ⟨fun h => absurd h (by decide), fun h => absurd h.1 q⟩
theorem se_dg (hB : ∀ x, x < n → isB (T x)) {j : Nat} : (48 ≤ seV T n j ∧ seV T n j ≤ 57) ↔ (j < n ∧ isDg (T j) = true) := by
  unfold seV
  by_cases q : j < n
  · rw [if_pos q, (byt_ok (hB j q)).2.2.2.2.2.2.2.1]
    exact ⟨fun h => ⟨q, h⟩, fun h => h.2⟩
  · rw [if_neg q]
    exact ⟨fun h => absurd h (by decide), fun h => absurd h.1 q⟩
theorem se_is (hB : ∀ x, x < n → isB (T x)) {j : Nat} {c : Int32} (hc : c = 32 ∨ c = 10 ∨ c = 59 ∨ c = 40 ∨ c = 41) : seV T n j = c ↔ (j < n ∧ T j = c) := by
  unfold seV
  by_cases q : j < n
  · rw [if_pos q]
    have b := byt_ok (hB j q)
    have : uB (T j) = c ↔ T j = c := by
      rcases hc with rfl | rfl | rfl | rfl | rfl
      · exact b.1
      · exact b.2.1
      · exact b.2.2.1
      · exact b.2.2.2.1
      · exact b.2.2.2.2.1
    rw [this]
    exact ⟨fun h => ⟨q, h⟩, fun h => h.2⟩
  · rw [if_neg q]
    refine ⟨fun h => ?_, fun h => absurd h.1 q⟩
    rcases hc with rfl | rfl | rfl | rfl | rfl <;> exact absurd h (by decide)
theorem se_end (hB : ∀ x, x < n → isB (T x)) {j : Nat} : seV T n j = -1 ↔ ¬ j < n := by
  unfold seV
  by_cases q : j < n
  · rw [if_pos q]
    exact ⟨fun h => absurd h (byt_ok (hB j q)).2.2.2.2.2.1, fun h => absurd q h⟩
  · rw [if_neg q]
    exact ⟨fun _ => q, fun _ => rfl⟩
end
theorem wi_lt (M : am_Mem) (x : Int32) : fn12_within M x.toInt64 97 122 = some (if 97 ≤ x ∧ x ≤ 122 then 1 else 0, M) := wi_lit M x 97 122
theorem wi_dg (M : am_Mem) (x : Int32) : fn12_within M x.toInt64 48 57 = some (if 48 ≤ x ∧ x ≤ 57 then 1 else 0, M) := wi_lit M x 48 57
/-- what a word and a number are worth, to the reference -/
def wM (T : Nat → Int32) (s : Nat) : Nat → Int64
  | 0 => 0
  | k + 1 => if k < 6 then (wM T s k <<< ((5 : Int32).toInt64 &&& 63)) ||| ((T (s + k)).toInt64 - 96) else wM T s k
def dM (T : Nat → Int32) (s : Nat) : Nat → Int32
  | 0 => 0
  | k + 1 => if k < 4 then (10 * dM T s k + T (s + k)) - 48 else dM T s k
def kM (k : Int32) : Int32 := if k = 3 then 5 else if k = 4 then 6 else if k = 5 then 3 else if k = 6 then 4 else k
/-- the reference stands at the token after i -/
def TokM (T : Nat → Int32) (n i : Nat) (M : am_Mem) : Prop := am_I M 110 3 = nI n ∧ am_I M 110 4 = nI (tkS T n i) ∧ am_I M 110 5 = nI (tkE T n i) ∧ am_I M 110 6 = kM (tkK T n i) ∧
  (tkB T n i = 1 → am_J M 110 8 = wM T (tkS T n i) (tkE T n i - tkS T n i)) ∧ (tkB T n i = 2 → am_I M 110 7 = dM T (tkS T n i) (tkE T n i - tkS T n i))
theorem sx_word {N n s : Nat} {T : Nat → Int32} (hn : n ≤ 600) (hB : ∀ x, x < n → isB (T x)) : ∀ k j fuel M, n - j = k → k < fuel → j ≤ n → s ≤ j → Shp M → (∀ x, x < n → am_I M 111 x = T x) → am_I M 110 3 = nI n → am_I M 110 5 = nI j → am_I M 110 4 = nI s → am_J M 110 8 = wM T s (j - s) → ∃ M', fn12_steps_b167 N fuel 110 M = some ((), M') ∧ Fs [110] M M' ∧ (∀ x, ¬ x = 5 → ¬ x = 6 → am_I M' 110 x = am_I M 110 x) ∧ am_I M' 110 5 = nI (tkF (fun x => isLt (T x)) n j) ∧ am_I M' 110 6 = (if tkF (fun x => isLt (T x)) n j - s ≤ 6 then 1 else 4) ∧ am_J M' 110 8 = wM T s (tkF (fun x => isLt (T x)) n j - s) := by
  have m110 : (110 : Nat) ∈ [110] := List.mem_cons_self
  have stop : ∀ (j g : Nat) (M : am_Mem), j ≤ n → s ≤ j → ¬ (j < n ∧ isLt (T j) = true) → Shp M → (∀ x, x < n → am_I M 111 x = T x) → am_I M 110 3 = nI n → am_I M 110 5 = nI j → am_I M 110 4 = nI s → fn12_steps_b167 N (g + 1) 110 M = some ((), am_wI M 110 6 (if j - s ≤ 6 then 1 else 4)) := by
    intro j g M hj hs hp sh tp e3 e5 e4
    show fn12_steps_b167B N (fn12_steps_b167 N g) 110 M = _
    unfold fn12_steps_b167B fn12_steps_b266 fn12_steps_b393
    rw [nk_k, sk110 sh, nk_dd, e5, se_ok sh e3 tp hn hj, nk_bd, wi_lt, nk_bd, if_neg (fun q => hp ((se_lt hB).mp q)), if_pos rfl, nk_k, sk110 sh, nk_dd, e5, e4, nk_sub _ _ hs]
    by_cases q : j - s ≤ 6
    · rw [if_pos q, if_neg (show ¬ (7 : Int32) ≤ nI (j - s) from nI_ge (b := 7) (by omega) (by decide)), nk_dd]
    · rw [if_neg q, if_pos (show (7 : Int32) ≤ nI (j - s) from nI_le (a := 7) (by omega) (by omega)), nk_dd]
  intro k
  induction k with
  | zero =>
    intro j fuel M hk hf hj hs sh tp e3 e5 e4 e8
    obtain ⟨g, rfl⟩ : ∃ g, fuel = g + 1 := ⟨fuel - 1, by omega⟩
    have hp : ¬ (j < n ∧ isLt (T j) = true) := fun q => by omega
    rw [stop j g M hj hs hp sh tp e3 e5 e4, tkF_no hp]
    exact ⟨_, rfl, fs_wI _ _ _ m110, fun x _ h => rI_ix _ _ _ h, by rw [rI_ix _ _ _ (by decide)]; exact e5, rI_eq _ _ _ _, by rw [qJ_wI]; exact e8⟩
  | succ k ih =>
    intro j fuel M hk hf hj hs sh tp e3 e5 e4 e8
    obtain ⟨g, rfl⟩ : ∃ g, fuel = g + 1 := ⟨fuel - 1, by omega⟩
    by_cases hp : j < n ∧ isLt (T j) = true
    · have hj' := hp.1
      have ub := (byt_ok (hB j hj')).2.2.2.2.2.2.2.2.1 hp.2
      have st : fn12_steps_b167 N (g + 1) 110 M = fn12_steps_b167 N g 110 (am_wI (am_wJ M 110 8 (wM T s (j + 1 - s))) 110 5 (nI (j + 1))) := by
        have ev : j + 1 - s = (j - s) + 1 := by omega
        have es : s + (j - s) = j := by omega
        show fn12_steps_b167B N (fn12_steps_b167 N g) 110 M = _
        unfold fn12_steps_b167B fn12_steps_b230
        rw [nk_k, sk110 sh, nk_dd, e5, se_ok sh e3 tp hn hj, nk_bd, wi_lt, nk_bd, if_pos ((se_lt hB).mpr hp), if_neg z_1, nk_k, sk110 sh, nk_dd, e5, e4, nk_sub _ _ hs, se_ok sh e3 tp hn hj, nk_bd, nk_k, sk110 sh, nk_dd, nk_dd, e5, nI_1, e8, ev]
        show _ = fn12_steps_b167 N g 110 (am_wI (am_wJ M 110 8 (if j - s < 6 then (wM T s (j - s) <<< ((5 : Int32).toInt64 &&& 63)) ||| ((T (s + (j - s))).toInt64 - 96) else wM T s (j - s))) 110 5 (nI (j + 1)))
        by_cases q : j - s < 6
        · rw [if_neg (show ¬ (6 : Int32) ≤ nI (j - s) from nI_ge (b := 6) q (by decide)), if_pos q, es]
          unfold seV
          rw [if_pos hj', ub, nk_dd, nk_dd]
        · rw [if_pos (show (6 : Int32) ≤ nI (j - s) from nI_le (a := 6) (by omega) (by omega)), if_neg q]
      rw [st, tkF_yes hj' hp.2]
      have f0 : Fs [110] M (am_wI (am_wJ M 110 8 (wM T s (j + 1 - s))) 110 5 (nI (j + 1))) := fs_trans (fs_wJ _ _ _ m110) (fs_wI _ _ _ m110)
      have o : ∀ x, ¬ x = 5 → am_I (am_wI (am_wJ M 110 8 (wM T s (j + 1 - s))) 110 5 (nI (j + 1))) 110 x = am_I M 110 x := fun x h => by rw [rI_ix _ _ _ h, qI_wJ]
      obtain ⟨M', a1, a2, a3, a4, a5, a6⟩ := ih (j + 1) g _ (by omega) (by omega) hj' (by omega) (fs_shp f0 sh) (fun x hx => by rw [fs_I f0 (by decide)]; exact tp x hx) (by rw [o 3 (by decide)]; exact e3) (rI_eq _ _ _ _) (by rw [o 4 (by decide)]; exact e4) (by rw [qJ_wI, rJ_eq])
      exact ⟨M', a1, fs_trans f0 a2, fun x h1 h2 => by rw [a3 x h1 h2, o x h1], a4, a5, a6⟩
    · rw [stop j g M hj hs hp sh tp e3 e5 e4, tkF_no hp]
      exact ⟨_, rfl, fs_wI _ _ _ m110, fun x _ h => rI_ix _ _ _ h, by rw [rI_ix _ _ _ (by decide)]; exact e5, rI_eq _ _ _ _, by rw [qJ_wI]; exact e8⟩
theorem sx_num {N n s : Nat} {T : Nat → Int32} (hn : n ≤ 600) (hB : ∀ x, x < n → isB (T x)) : ∀ k j fuel M, n - j = k → k < fuel → j ≤ n → s ≤ j → Shp M → (∀ x, x < n → am_I M 111 x = T x) → am_I M 110 3 = nI n → am_I M 110 5 = nI j → am_I M 110 4 = nI s → am_I M 110 7 = dM T s (j - s) → ∃ M', fn12_steps_b294 N fuel 110 M = some ((), M') ∧ Fs [110] M M' ∧ (∀ x, ¬ x = 5 → ¬ x = 6 → ¬ x = 7 → am_I M' 110 x = am_I M 110 x) ∧ am_J M' = am_J M ∧ am_I M' 110 5 = nI (tkF (fun x => isDg (T x)) n j) ∧ am_I M' 110 6 = (if tkF (fun x => isDg (T x)) n j - s ≤ 4 then 2 else 4) ∧ am_I M' 110 7 = dM T s (tkF (fun x => isDg (T x)) n j - s) := by
  have m110 : (110 : Nat) ∈ [110] := List.mem_cons_self
  have stop : ∀ (j g : Nat) (M : am_Mem), j ≤ n → s ≤ j → ¬ (j < n ∧ isDg (T j) = true) → Shp M → (∀ x, x < n → am_I M 111 x = T x) → am_I M 110 3 = nI n → am_I M 110 5 = nI j → am_I M 110 4 = nI s → fn12_steps_b294 N (g + 1) 110 M = some ((), am_wI M 110 6 (if j - s ≤ 4 then 2 else 4)) := by
    intro j g M hj hs hp sh tp e3 e5 e4
    show fn12_steps_b294B N (fn12_steps_b294 N g) 110 M = _
    unfold fn12_steps_b294B fn12_steps_b390 fn12_steps_b393
    rw [nk_k, sk110 sh, nk_dd, e5, se_ok sh e3 tp hn hj, nk_bd, wi_dg, nk_bd, if_neg (fun q => hp ((se_dg hB).mp q)), if_pos rfl, nk_k, sk110 sh, nk_dd, e5, e4, nk_sub _ _ hs]
    by_cases q : j - s ≤ 4
    · rw [if_pos q, if_neg (show ¬ (5 : Int32) ≤ nI (j - s) from nI_ge (b := 5) (by omega) (by decide)), nk_dd]
    · rw [if_neg q, if_pos (show (5 : Int32) ≤ nI (j - s) from nI_le (a := 5) (by omega) (by omega)), nk_dd]
  intro k
  induction k with
  | zero =>
    intro j fuel M hk hf hj hs sh tp e3 e5 e4 e7
    obtain ⟨g, rfl⟩ : ∃ g, fuel = g + 1 := ⟨fuel - 1, by omega⟩
    have hp : ¬ (j < n ∧ isDg (T j) = true) := fun q => by omega
    rw [stop j g M hj hs hp sh tp e3 e5 e4, tkF_no hp]
    exact ⟨_, rfl, fs_wI _ _ _ m110, fun x _ h _ => rI_ix _ _ _ h, qJ_wI _ _ _ _, by rw [rI_ix _ _ _ (by decide)]; exact e5, rI_eq _ _ _ _, by rw [rI_ix _ _ _ (by decide)]; exact e7⟩
  | succ k ih =>
    intro j fuel M hk hf hj hs sh tp e3 e5 e4 e7
    obtain ⟨g, rfl⟩ : ∃ g, fuel = g + 1 := ⟨fuel - 1, by omega⟩
    by_cases hp : j < n ∧ isDg (T j) = true
    · have hj' := hp.1
      have ub := (byt_ok (hB j hj')).2.2.2.2.2.2.2.2.2 hp.2
      have st : fn12_steps_b294 N (g + 1) 110 M = fn12_steps_b294 N g 110 (am_wI (am_wI M 110 7 (dM T s (j + 1 - s))) 110 5 (nI (j + 1))) := by
        have ev : j + 1 - s = (j - s) + 1 := by omega
        have es : s + (j - s) = j := by omega
        show fn12_steps_b294B N (fn12_steps_b294 N g) 110 M = _
        unfold fn12_steps_b294B fn12_steps_b355
        rw [nk_k, sk110 sh, nk_dd, e5, se_ok sh e3 tp hn hj, nk_bd, wi_dg, nk_bd, if_pos ((se_dg hB).mpr hp), if_neg z_1, nk_k, sk110 sh, nk_dd, e5, e4, nk_sub _ _ hs, se_ok sh e3 tp hn hj, nk_bd, nk_k, sk110 sh, nk_dd, nk_dd, rI_ix _ _ _ (show ¬ 5 = 7 by decide), rI_ix _ _ _ (show ¬ 5 = 7 by decide), e5, nI_1, e7, ev]
        show _ = fn12_steps_b294 N g 110 (am_wI (am_wI M 110 7 (if j - s < 4 then (10 * dM T s (j - s) + T (s + (j - s))) - 48 else dM T s (j - s))) 110 5 (nI (j + 1)))
        by_cases q : j - s < 4
        · rw [if_neg (show ¬ (4 : Int32) ≤ nI (j - s) from nI_ge (b := 4) q (by decide)), if_pos q, es]
          unfold seV
          rw [if_pos hj', ub, nk_dd, nk_dd]
        · rw [if_pos (show (4 : Int32) ≤ nI (j - s) from nI_le (a := 4) (by omega) (by omega)), if_neg q]
      rw [st, tkF_yes hj' hp.2]
      have f0 : Fs [110] M (am_wI (am_wI M 110 7 (dM T s (j + 1 - s))) 110 5 (nI (j + 1))) := fs_trans (fs_wI _ _ _ m110) (fs_wI _ _ _ m110)
      have o : ∀ x, ¬ x = 5 → ¬ x = 7 → am_I (am_wI (am_wI M 110 7 (dM T s (j + 1 - s))) 110 5 (nI (j + 1))) 110 x = am_I M 110 x := fun x h h' => by rw [rI_ix _ _ _ h, rI_ix _ _ _ h']
      obtain ⟨M', a1, a2, a3, aJ, a4, a5, a6⟩ := ih (j + 1) g _ (by omega) (by omega) hj' (by omega) (fs_shp f0 sh) (fun x hx => by rw [fs_I f0 (by decide)]; exact tp x hx) (by rw [o 3 (by decide) (by decide)]; exact e3) (rI_eq _ _ _ _) (by rw [o 4 (by decide) (by decide)]; exact e4) (by rw [rI_ix _ _ _ (by decide), rI_eq])
      exact ⟨M', a1, fs_trans f0 a2, fun x h1 h2 h3 => by rw [a3 x h1 h2 h3, o x h1 h3], by rw [aJ, qJ_wI, qJ_wI], a4, a5, a6⟩
    · rw [stop j g M hj hs hp sh tp e3 e5 e4, tkF_no hp]
      exact ⟨_, rfl, fs_wI _ _ _ m110, fun x _ h _ => rI_ix _ _ _ h, qJ_wI _ _ _ _, by rw [rI_ix _ _ _ (by decide)]; exact e5, rI_eq _ _ _ _, by rw [rI_ix _ _ _ (by decide)]; exact e7⟩
