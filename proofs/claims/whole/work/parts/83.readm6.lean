section
variable {T : Nat → Int32} {n t : Nat}
/-- the groups of a drawn line, the reference -/
theorem dr_m {N p : Nat} {M : am_Mem} (hN : 100000 ≤ N) (hn : n ≤ 600) (hB : ∀ x, x < n → isB (T x)) (ht : t < 6) (h : MAt T n p M) (e9 : am_I M 110 9 = 0) (e11 : am_I M 110 11 = nI t) (e14 : am_I M 114 t = nI 0) : ∃ v M', fn12_drawnLine_b9 N N 110 M = some (v, M') ∧ RfM M M' t ∧ (((gDr T n p).1 = 0 ∧ v = 1 ∧ am_I M' 110 9 = 0 ∧ MAt T n (gDr T n p).2.1 M' ∧ PutM M M' t 0 (sgG 99 (gDr T n p).2.2)) ∨ (¬ (gDr T n p).1 = 0 ∧ v = 0 ∧ FtM M' (gDr T n p).1)) := by
  unfold gDr
  by_cases k3 : tkK T n p = 3
  · rw [if_pos k3]
    exact dl_m (N := N) hN hn hB ht 25 0 p 0 N 99 M (by omega) (by omega) (by omega) (by omega) (by decide) k3 h e9 e11 e14
  · rw [if_neg k3]
    obtain ⟨q, e⟩ : ∃ q, N = q + 1 := ⟨N - 1, by omega⟩
    refine ⟨0, _, ?_, rfm_mu M t 1 _, Or.inr ⟨ft_1 hn h.2.2.1, rfl, mu_ft (T := T) (n := n) (p := p) 1⟩⟩
    rw [show fn12_drawnLine_b9 N N = fn12_drawnLine_b9 N (q + 1) from congrArg _ e]
    show fn12_drawnLine_b9B N (fn12_drawnLine_b9 N q) 110 M = _
    unfold fn12_drawnLine_b9B fn12_groupHere fn12_groupHere_b0 fn12_groupHere_b14
    rw [nk_k, sk110 h.1, nk_dd, nk_dd, ma_k h, if_neg (fun z => k3 ((km_all T n p).2.2.2.1.mp z)), nk_dd, mu_0 h e9 (by decide), nk_bd, if_pos rfl, nk_bd, if_pos rfl]
end
