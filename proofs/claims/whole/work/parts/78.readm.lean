theorem kOf_in (x : Int32) : kOf x = 1 ∨ kOf x = 2 ∨ kOf x = 3 ∨ kOf x = 4 ∨ kOf x = 5 ∨ kOf x = 6 := by
  unfold kOf
  split
  · exact Or.inl rfl
  · split
    · exact Or.inr (Or.inl rfl)
    · split
      · exact Or.inr (Or.inr (Or.inl rfl))
      · split
        · exact Or.inr (Or.inr (Or.inr (Or.inl rfl)))
        · split
          · exact Or.inr (Or.inr (Or.inr (Or.inr (Or.inl rfl))))
          · exact Or.inr (Or.inr (Or.inr (Or.inr (Or.inr rfl))))
theorem tkK_in (T : Nat → Int32) (n p : Nat) : tkK T n p = 0 ∨ tkK T n p = 1 ∨ tkK T n p = 2 ∨ tkK T n p = 3 ∨ tkK T n p = 4 ∨ tkK T n p = 5 ∨ tkK T n p = 6 := by
  unfold tkK
  split
  · split
    · exact Or.inr (Or.inl rfl)
    · exact Or.inr (Or.inr (Or.inr (Or.inr (Or.inr (Or.inr rfl)))))
  · split
    · split
      · exact Or.inr (Or.inr (Or.inl rfl))
      · exact Or.inr (Or.inr (Or.inr (Or.inr (Or.inr (Or.inr rfl)))))
    · unfold tkB
      split
      · exact Or.inr (kOf_in _)
      · exact Or.inl rfl
/-- the kinds, to the reference -/
theorem km_all (T : Nat → Int32) (n p : Nat) : (kM (tkK T n p) = 0 ↔ tkK T n p = 0) ∧ (kM (tkK T n p) = 1 ↔ tkK T n p = 1) ∧ (kM (tkK T n p) = 2 ↔ tkK T n p = 2) ∧ (kM (tkK T n p) = 5 ↔ tkK T n p = 3) ∧ (kM (tkK T n p) = 6 ↔ tkK T n p = 4) ∧ (kM (tkK T n p) = 3 ↔ tkK T n p = 5) := by
  rcases tkK_in T n p with e | e | e | e | e | e | e <;> rw [e] <;> decide
section
variable {T : Nat → Int32} {n p : Nat} {M : am_Mem}
theorem mu_1 (s : Shp M) (e9 : am_I M 110 9 = 0) (k : Int32) : fn12_must M 110 1 k = some (1, M) := by
  unfold fn12_must fn12_must_b0 fn12_must_b24 fn12_must_b36
  rw [nk_k, sk110 s, nk_dd, if_pos e9, if_neg z_1, nk_dd, if_pos e9]
  rfl
theorem mu_0 (h : MAt T n p M) (e9 : am_I M 110 9 = 0) {k : Int32} (hk : ¬ k = 0) : fn12_must M 110 0 k = some (0, am_wI (am_wI M 110 9 k) 110 10 (nI (tkS T n p))) := by
  have e4 : am_I M 110 4 = nI (tkS T n p) := h.2.2.2.2.1
  have e9' : am_I (am_wI (am_wI M 110 9 k) 110 10 (nI (tkS T n p))) 110 9 = k := by rw [rI_ix _ _ _ (by decide), rI_eq]
  unfold fn12_must fn12_must_b0 fn12_must_b24 fn12_must_b36
  rw [nk_k, sk110 h.1, nk_dd, if_pos e9, if_pos rfl, rI_ix _ _ _ (show ¬ 4 = 9 by decide), e4, nk_k, qK_wI, qK_wI, sk110 h.1, nk_dd, e9', if_neg hk]
  rfl
/-- a fault, to the reference -/
def FtM (M : am_Mem) (c : Int32) : Prop := 8 * am_I M 110 10 + am_I M 110 9 = c
theorem mu_ft (k : Int32) : FtM (am_wI (am_wI M 110 9 k) 110 10 (nI (tkS T n p))) (ft T n p k) := by
  unfold FtM ft
  rw [rI_eq, rI_ix _ _ _ (by decide), rI_eq]
theorem ma_fs {W : List Nat} {M' : am_Mem} (h : MAt T n p M) (f : Fs W M M') (h3 : 111 ∉ W) (h2 : 110 ∉ W) : MAt T n p M' := by
  obtain ⟨s, tp, hp, c1, c2, c3, c4, c5, c6⟩ := h
  refine ⟨fs_shp f s, fun x hx => by rw [fs_I f h3]; exact tp x hx, hp, ?_, ?_, ?_, ?_, ?_, ?_⟩
  · rw [fs_I f h2]; exact c1
  · rw [fs_I f h2]; exact c2
  · rw [fs_I f h2]; exact c3
  · rw [fs_I f h2]; exact c4
  · rw [fs_J f h2]; exact c5
  · rw [fs_I f h2]; exact c6
/-- one token on, the reference -/
theorem ma_nx {N : Nat} (hN : 100000 ≤ N) (hn : n ≤ 600) (hB : ∀ x, x < n → isB (T x)) (h : MAt T n p M) : ∃ M', fn12_steps N M 110 = some ((), M') ∧ Fs [110] M M' ∧ (∀ x, ¬ x = 4 → ¬ x = 5 → ¬ x = 6 → ¬ x = 7 → am_I M' 110 x = am_I M 110 x) ∧ MAt T n (tkE T n p) M' := by
  have he := tkE_le (T := T) h.2.2.1
  obtain ⟨M', a1, a2, a3, a4⟩ := sx_ok hN hn hB he h.1 h.2.1 h.2.2.2.1 h.2.2.2.2.2.1
  exact ⟨M', a1, a2, a3, fs_shp a2 h.1, fun x hx => by rw [fs_I a2 (by decide)]; exact h.2.1 x hx, he, a4⟩
end
