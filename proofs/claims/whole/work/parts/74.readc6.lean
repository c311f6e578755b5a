section
variable {T : Nat → Int32} {n : Nat}
/-- what a line read leaves behind -/
def LnC (T : Nat → Int32) (n : Nat) (Q : List Nat) (p : Nat) (M M' : am_Mem) (r : Int32 × Nat × Ld) : Prop := Fs rdW M M' ∧ am_I M' 2 7 = am_I M 2 7 ∧ (r.1 = 0 → CAt T n r.2.1 M' ∧ am_I M' 2 8 = nI (Q.length + 1) ∧ am_J M' 4 Q.length = wW T n (tkE T n p) ∧ LdC M' Q.length r.2.2 ∧ Bef M M' Q.length)
/-- after the name: the groups or the net, and the end -/
theorem lb_c {N q t : Nat} {M : am_Mem} (hN : 100000 ≤ N) (hn : n ≤ 600) (ht : t < 6) (h : CAt T n q M) (e8 : am_I M 2 8 = nI t) (e6 : am_I M 6 t = nI 0) (e5 : am_I M 5 t = 1) : ∃ M', am_bd (fn8_readGroups N M 2) (fun v M3 => fn8_readLine_b146 N v 2 M3) = some ((lnD T n q).1, M') ∧ Fs rdW M M' ∧ am_I M' 2 7 = am_I M 2 7 ∧ ((lnD T n q).1 = 0 → CAt T n (lnD T n q).2.1 M' ∧ am_I M' 2 8 = nI (t + 1) ∧ am_J M' 4 = am_J M 4 ∧ LdC M' t (lnD T n q).2.2 ∧ Bef M M' t) := by
  obtain ⟨M1, a1, a2, a3⟩ := dr_c (N := N) hN hn ht h e8 e6
  rw [a1, nk_bd]
  unfold lnD
  have f1 := fs_mono a2.1 (rdW_t ht)
  have e7 := a2.2.1 7 (by decide) (by decide) (by decide)
  by_cases z : (gDr T n q).1 = 0
  · rw [if_pos z, z]
    obtain ⟨b1, b2, b3⟩ := a3 z
    obtain ⟨M2, d1, d2, d3, d4⟩ := le_c hN hn ht b1 ((a2.2.1 8 (by decide) (by decide) (by decide)).trans e8)
    have f2 := fs_mono d2 (show ∀ a ∈ [2], a ∈ rdW by decide)
    by_cases k5 : tkK T n (gDr T n q).2.1 = 5
    · rw [if_pos k5] at d1 ⊢
      refine ⟨M2, d1, fs_trans f1 f2, d3.trans e7, fun _ => ?_⟩
      obtain ⟨g1, g2⟩ := d4 k5
      refine ⟨g1, g2, ?_, Or.inl ⟨rfl, ?_, ?_, b3, fun j hj => ?_⟩, bef_trans (bef_rdf ht a2) (bef_nx t d2)⟩
      · rw [fs_J d2 (by decide), fs_J a2.1 (by simp; omega)]
      · rw [fs_I d2 (by decide), fs_I a2.1 (by simp; omega)]; exact e5
      · rw [fs_I d2 (by decide)]
        have := b2.1
        rw [Nat.zero_add] at this
        exact this
      · rw [fs_I d2 (by rw [List.mem_singleton]; omega), fs_I d2 (by rw [List.mem_singleton]; omega)]
        have := b2.2.2 j hj
        rw [Nat.zero_add] at this
        exact this
    · rw [if_neg k5] at d1 ⊢
      exact ⟨M2, d1, fs_trans f1 f2, d3.trans e7, fun z2 => absurd z2 (ft_1 hn b1.2.2.1)⟩
  · rw [if_neg z]
    refine ⟨M1, ?_, f1, e7, fun z2 => absurd z2 z⟩
    unfold fn8_readLine_b146
    rw [if_neg z]
theorem lc_c {N q t : Nat} {M : am_Mem} (hN : 100000 ≤ N) (hn : n ≤ 600) (ht : t < 6) (h : CAt T n q M) (e8 : am_I M 2 8 = nI t) (e6 : am_I M 6 t = nI 0) (e5 : am_I M 5 t = 0) : ∃ M', am_bd (fn8_readNet N M 2) (fun v M3 => fn8_readLine_b146 N v 2 M3) = some ((lnN T n q).1, M') ∧ Fs rdW M M' ∧ am_I M' 2 7 = am_I M 2 7 ∧ ((lnN T n q).1 = 0 → CAt T n (lnN T n q).2.1 M' ∧ am_I M' 2 8 = nI (t + 1) ∧ am_J M' 4 = am_J M 4 ∧ LdC M' t (lnN T n q).2.2 ∧ Bef M M' t) := by
  obtain ⟨M1, a1, a2, a3⟩ := nt_c (N := N) hN hn ht h e8 e6
  rw [a1, nk_bd]
  unfold lnN
  have f1 := fs_mono a2.1 (rdW_t ht)
  have e7 := a2.2.1 7 (by decide) (by decide) (by decide)
  by_cases z : (nNt T n q).1 = 0
  · rw [if_pos z, z]
    obtain ⟨b1, b2, b3, b4, b5⟩ := a3 z
    obtain ⟨M2, d1, d2, d3, d4⟩ := le_c hN hn ht b1 ((a2.2.1 8 (by decide) (by decide) (by decide)).trans e8)
    have f2 := fs_mono d2 (show ∀ a ∈ [2], a ∈ rdW by decide)
    by_cases k5 : tkK T n (nNt T n q).2.1 = 5
    · rw [if_pos k5] at d1 ⊢
      refine ⟨M2, d1, fs_trans f1 f2, d3.trans e7, fun _ => ?_⟩
      obtain ⟨g1, g2⟩ := d4 k5
      refine ⟨g1, g2, ?_, Or.inr ⟨rfl, ?_, ?_, ⟨b3, b4, b5⟩, ?_, fun j hj => ?_⟩, bef_trans (bef_rdf ht a2) (bef_nx t d2)⟩
      · rw [fs_J d2 (by decide), fs_J a2.1 (by simp; omega)]
      · rw [fs_I d2 (by decide), fs_I a2.1 (by simp; omega)]; exact e5
      · rw [fs_I d2 (by decide), b2.1, List.length_cons]
        exact congrArg nI (by show 0 + ((nNt T n q).2.2.2.length + 1) = 1 + (nNt T n q).2.2.2.length; omega)
      · rw [fs_I d2 (by rw [List.mem_singleton]; omega)]
        exact b2.2.2 0 (by rw [List.length_cons]; omega)
      · rw [fs_I d2 (by rw [List.mem_singleton]; omega), Nat.add_comm 1 j]
        have := b2.2.2 (j + 1) (by rw [List.length_cons]; exact Nat.succ_lt_succ hj)
        rw [Nat.zero_add] at this
        exact this
    · rw [if_neg k5] at d1 ⊢
      exact ⟨M2, d1, fs_trans f1 f2, d3.trans e7, fun z2 => absurd z2 (ft_1 hn b1.2.2.1)⟩
  · rw [if_neg z]
    refine ⟨M1, ?_, f1, e7, fun z2 => absurd z2 z⟩
    unfold fn8_readLine_b146
    rw [if_neg z]
end
