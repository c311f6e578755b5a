theorem nI_m1 (x : Nat) : nI (x + 1) + -1 = nI x := by rw [← Int32.sub_eq_add_neg, nI_s1]
section
variable {N o cap W s : Nat} {O : Ou}
/-- the pieces behind the notch, one place on -/
theorem sp_loop {nt : Nat} {x1 x2 : Int32} (hc : cap ≤ 25) : ∀ m x fuel M, x = nt + m → m < fuel → x < cap → OuT M o cap → am_I M o 2 = nI nt → ∃ M' f', fn6_splitNotch_b53 N fuel o x1 x2 (nI x) M = fn6_splitNotch_b53 N (f' + 1) o x1 x2 (nI nt) M' ∧ Fs [o + 1, o + 2] M M' ∧ (∀ j, nt < j → j ≤ x → am_I M' (o + 1) j = am_I M (o + 1) (j - 1) ∧ am_I M' (o + 2) j = am_I M (o + 2) (j - 1)) ∧ ∀ j, j ≤ nt ∨ x < j → am_I M' (o + 1) j = am_I M (o + 1) j ∧ am_I M' (o + 2) j = am_I M (o + 2) j := by
  intro m
  induction m with
  | zero =>
    intro x fuel M hx hf hxc t e2
    obtain ⟨g, rfl⟩ : ∃ g, fuel = g + 1 := ⟨fuel - 1, by omega⟩
    exact ⟨M, g, by rw [hx]; rfl, fs_refl _ _, fun j h1 h2 => by omega, fun _ _ => ⟨rfl, rfl⟩⟩
  | succ m ih =>
    intro x fuel M hx hf hxc t e2
    obtain ⟨g, rfl⟩ : ∃ g, fuel = g + 1 := ⟨fuel - 1, by omega⟩
    obtain ⟨y, rfl⟩ : ∃ y, x = y + 1 := ⟨x - 1, by omega⟩
    obtain ⟨t1, t2, t3, t4, t5, t6, t7⟩ := id t
    have c1 : (nI (y + 1)).toNatClampNeg = y + 1 := nI_clamp (by omega)
    have c2 : (nI y).toNatClampNeg = y := nI_clamp (by omega)
    have i1 : am_in (nI (y + 1)) cap = true := nk_in hxc (by omega)
    have i2 : am_in (nI y) cap = true := nk_in (by omega) (by omega)
    have n1 : ¬ o + 2 = o + 1 := by omega
    have st : fn6_splitNotch_b53 N (g + 1) o x1 x2 (nI (y + 1)) M = fn6_splitNotch_b53 N g o x1 x2 (nI y) (am_wI (am_wI M (o + 1) (y + 1) (am_I M (o + 1) y)) (o + 2) (y + 1) (am_I M (o + 2) y)) := by
      show fn6_splitNotch_b53B N (fn6_splitNotch_b53 N g) o x1 x2 (nI (y + 1)) M = _
      unfold fn6_splitNotch_b53B
      rw [nk_k, t1, nk_dd, e2, if_neg (nI_ge (by omega) (by omega))]
      simp only [nk_k, eq_self, decide_true, nk_ck, t2, t3, t4, t5, t6, t7, nI_s1, i1, i2, c1, c2, rI_ne _ _ _ n1, nI_m1]
    rw [st]
    have f1 : Fs [o + 1, o + 2] M (am_wI (am_wI M (o + 1) (y + 1) (am_I M (o + 1) y)) (o + 2) (y + 1) (am_I M (o + 2) y)) := fs_trans (fs_wI _ _ _ (by simp)) (fs_wI _ _ _ (by simp))
    obtain ⟨M', f', a1, a2, a3, a4⟩ := ih y g _ (by omega) (by omega) (by omega) (out_fs f1 t) (by rw [rI_ne _ _ _ (by omega), rI_ne _ _ _ (by omega)]; exact e2)
    have r1 : ∀ j, am_I (am_wI (am_wI M (o + 1) (y + 1) (am_I M (o + 1) y)) (o + 2) (y + 1) (am_I M (o + 2) y)) (o + 1) j = if j = y + 1 then am_I M (o + 1) y else am_I M (o + 1) j := fun j => by rw [rI_ne _ _ _ (by omega), rI_if]
    have r2 : ∀ j, am_I (am_wI (am_wI M (o + 1) (y + 1) (am_I M (o + 1) y)) (o + 2) (y + 1) (am_I M (o + 2) y)) (o + 2) j = if j = y + 1 then am_I M (o + 2) y else am_I M (o + 2) j := fun j => by rw [rI_if, rI_ne _ _ _ (by omega)]
    refine ⟨M', f', a1, fs_trans f1 a2, fun j h1 h2 => ?_, fun j hj => ?_⟩
    · by_cases e : j = y + 1
      · have := a4 j (Or.inr (by omega))
        rw [r1, r2, if_pos e, if_pos e] at this
        rw [show j - 1 = y by omega]
        exact this
      · have := a3 j h1 (by omega)
        rw [r1, r2, if_neg (by omega), if_neg (by omega)] at this
        exact this
    · have := a4 j (by omega)
      rw [r1, r2, if_neg (by omega), if_neg (by omega)] at this
      exact this
/-- the notch split -/
theorem sp_c {M : am_Mem} (hN : 100000 ≤ N) (hc : cap ≤ 25) (hl : O.length < cap) (ho : OkO O W) (hs : 0 < s) (c : s < enO O W (ntO O) - bgO O (ntO O)) (hd : ∀ k, k < O.length → dpO O k < 2147483648) (hd2 : dpO O (ntO O) + s < 2147483648) (t : OuT M o cap) (h : OuC M o O W) : ∃ M', fn6_splitNotch N M o (nI (bgO O (ntO O) + s)) (nI (dpO O (ntO O) + s)) = some ((), M') ∧ Fs [o, o + 1, o + 2] M M' ∧ OuC M' o (lyO O W s) W := by
  have nl := nt_lt ho
  obtain ⟨t1, t2, t3, t4, t5, t6, t7⟩ := id t
  have en1 : ∀ k, k + 1 < O.length → enO O W k = bgO O (k + 1) := fun k hk => if_pos hk
  have en2 : ∀ k, ¬ k + 1 < O.length → enO O W k = W := fun k hk => if_neg hk
  have ins : (0 < ntO O → ¬ dpO O (ntO O - 1) = dpO O (ntO O) + s) → ∃ M', fn6_splitNotch_b35 N o (nI (bgO O (ntO O) + s)) (nI (dpO O (ntO O) + s)) M = some ((), M') ∧ Fs [o, o + 1, o + 2] M M' ∧ OuC M' o (lyO O W s) W := by
    intro e0
    obtain ⟨a, b⟩ := ly_s2 ho hs c e0 (O.length - (ntO O + 1)) (by omega)
    have eL : lyP O W s (ntO O + 1 + (O.length - (ntO O + 1))) = lyO O W s := by unfold lyO; rw [show ntO O + 1 + (O.length - (ntO O + 1)) = O.length by omega]
    rw [eL] at a b
    have a' : (lyO O W s).length = O.length + 1 := by omega
    have gB : ∀ j, j < O.length + 1 → bgO (lyO O W s) j = if j < ntO O then bgO O j else if j = ntO O then bgO O (ntO O) else if j = ntO O + 1 then bgO O (ntO O) + s else bgO O (j - 1) := by
      intro j hj
      unfold bgO
      rw [b j (by omega)]
      by_cases q1 : j < ntO O
      · rw [if_pos q1, if_pos q1]
      · rw [if_neg q1, if_neg q1]
        by_cases q2 : j = ntO O
        · rw [if_pos q2, if_pos q2]; rfl
        · rw [if_neg q2, if_neg q2]
          by_cases q3 : j = ntO O + 1
          · rw [if_pos q3, if_pos q3]; rfl
          · rw [if_neg q3, if_neg q3]
    have gD : ∀ j, j < O.length + 1 → dpO (lyO O W s) j = if j < ntO O then dpO O j else if j = ntO O then dpO O (ntO O) + s else if j = ntO O + 1 then dpO O (ntO O) else dpO O (j - 1) := by
      intro j hj
      unfold dpO
      rw [b j (by omega)]
      by_cases q1 : j < ntO O
      · rw [if_pos q1, if_pos q1]
      · rw [if_neg q1, if_neg q1]
        by_cases q2 : j = ntO O
        · rw [if_pos q2, if_pos q2]; rfl
        · rw [if_neg q2, if_neg q2]
          by_cases q3 : j = ntO O + 1
          · rw [if_pos q3, if_pos q3]; rfl
          · rw [if_neg q3, if_neg q3]
    have nn : ntO (lyO O W s) = ntO O + 1 := by
      have dn : dpO (lyO O W s) (ntO O + 1) = dpO O (ntO O) := by rw [gD _ (by omega), if_neg (by omega), if_neg (by omega), if_pos rfl]
      refine nt_uni (by omega) (fun j hj => ?_) (fun j hj => ?_)
      · rw [dn, gD j (by omega)]
        by_cases q1 : j < ntO O
        · rw [if_pos q1]; exact nt_le ho (by omega)
        · rw [if_neg q1]
          by_cases q2 : j = ntO O
          · rw [if_pos q2]; omega
          · rw [if_neg q2]
            by_cases q3 : j = ntO O + 1
            · rw [if_pos q3]; exact Nat.le_refl _
            · rw [if_neg q3]; exact nt_le ho (by omega)
      · rw [dn, gD j (by omega)]
        by_cases q1 : j < ntO O
        · rw [if_pos q1]; exact nt_fst ho q1
        · rw [if_neg q1, if_pos (by omega)]; omega
    obtain ⟨M1, f', b1, b2, b3, b4⟩ := sp_loop (N := N) (x1 := nI (bgO O (ntO O) + s)) (x2 := nI (dpO O (ntO O) + s)) hc (O.length - ntO O) O.length N M (by omega) (by omega) hl t h.1
    have t' := out_fs b2 t
    obtain ⟨u1, u2, u3, u4, u5, u6, u7⟩ := id t'
    have e21 : am_I M1 o 2 = nI (ntO O) := by rw [fs_I b2 (by simp)]; exact h.1
    have e31 : am_I M1 o 3 = nI O.length := by rw [fs_I b2 (by simp)]; exact h.2.1
    have c2 : (nI (ntO O)).toNatClampNeg = ntO O := nI_clamp (by omega)
    have i2 : am_in (nI (ntO O)) cap = true := nk_in (by omega) (by omega)
    have n1 : ¬ o = o + 1 := by omega
    have n2 : ¬ o = o + 2 := by omega
    have n3 : ¬ 2 = 3 := by decide
    refine ⟨am_wI (am_wI (am_wI (am_wI M1 o 3 (nI (O.length + 1))) (o + 1) (ntO O) (nI (bgO O (ntO O) + s))) (o + 2) (ntO O) (nI (dpO O (ntO O) + s))) o 2 (nI (ntO O + 1)), ?_, ?_, ?_, ?_, fun k hk => ?_⟩
    · unfold fn6_splitNotch_b35
      have lt : nI O.length < Int32.ofNat cap := nI_lt hl (by omega)
      rw [nk_k, t1, nk_dd, t2, nk_k, t4, nk_dd, t6, h.2.1, if_pos lt, b1]
      show fn6_splitNotch_b53B N (fn6_splitNotch_b53 N f') o (nI (bgO O (ntO O) + s)) (nI (dpO O (ntO O) + s)) (nI (ntO O)) M1 = _
      unfold fn6_splitNotch_b53B
      rw [nk_k, u1, nk_dd, e21, if_pos (nI_le (Nat.le_refl _) (by omega))]
      simp only [nk_k, eq_self, decide_true, nk_ck, u2, u3, u4, u5, u6, u7, e31, nI_1, rI_ix _ _ _ n3, e21, i2, c2, rI_ne _ _ _ n1, rI_ne _ _ _ n2]
    · exact fs_trans (fs_mono b2 (by simp)) (fs_trans (fs_trans (fs_trans (fs_wI _ _ _ (by simp)) (fs_wI _ _ _ (by simp))) (fs_wI _ _ _ (by simp))) (fs_wI _ _ _ (by simp)))
    · rw [nn, rI_eq]
    · rw [a', rI_ix _ _ _ (by decide), rI_ne _ _ _ (by omega), rI_ne _ _ _ (by omega), rI_eq]
    · rw [a'] at hk
      have r1 : am_I (am_wI (am_wI (am_wI (am_wI M1 o 3 (nI (O.length + 1))) (o + 1) (ntO O) (nI (bgO O (ntO O) + s))) (o + 2) (ntO O) (nI (dpO O (ntO O) + s))) o 2 (nI (ntO O + 1))) (o + 1) k = if k = ntO O then nI (bgO O (ntO O) + s) else am_I M1 (o + 1) k := by
        rw [rI_ne _ _ _ (by omega), rI_ne _ _ _ (by omega), rI_if, rI_ne _ _ _ (by omega)]
      have r2 : am_I (am_wI (am_wI (am_wI (am_wI M1 o 3 (nI (O.length + 1))) (o + 1) (ntO O) (nI (bgO O (ntO O) + s))) (o + 2) (ntO O) (nI (dpO O (ntO O) + s))) o 2 (nI (ntO O + 1))) (o + 2) k = if k = ntO O then nI (dpO O (ntO O) + s) else am_I M1 (o + 2) k := by
        rw [rI_ne _ _ _ (by omega), rI_if, rI_ne _ _ _ (by omega), rI_ne _ _ _ (by omega)]
      rw [r1, r2, gD k hk]
      unfold enO
      rw [a']
      by_cases q1 : k < ntO O
      · have := b4 k (Or.inl (by omega))
        rw [if_neg (show ¬ k = ntO O by omega), if_neg (show ¬ k = ntO O by omega), if_pos q1, if_pos (show k + 1 < O.length + 1 by omega), this.1, this.2, (h.2.2 k (by omega)).1, (h.2.2 k (by omega)).2, en1 k (by omega), gB (k + 1) (by omega)]
        refine ⟨congrArg nI ?_, rfl⟩
        by_cases q2 : k + 1 < ntO O
        · rw [if_pos q2]
        · rw [if_neg q2, if_pos (by omega), show k + 1 = ntO O by omega]
      · rw [if_neg q1]
        by_cases q2 : k = ntO O
        · rw [if_pos q2, if_pos q2, if_pos q2, if_pos (show k + 1 < O.length + 1 by omega), gB (k + 1) (by omega), if_neg (by omega), if_neg (by omega), if_pos (by omega)]
          exact ⟨rfl, rfl⟩
        · rw [if_neg q2, if_neg q2, if_neg q2]
          have := b3 k (by omega) (by omega)
          rw [this.1, this.2, (h.2.2 (k - 1) (by omega)).1, (h.2.2 (k - 1) (by omega)).2]
          refine ⟨congrArg nI ?_, ?_⟩
          · by_cases q3 : k < O.length
            · rw [if_pos (show k + 1 < O.length + 1 by omega), en1 (k - 1) (by omega), show k - 1 + 1 = k by omega, gB (k + 1) (by omega), if_neg (by omega), if_neg (by omega), if_neg (by omega), Nat.add_sub_cancel]
            · rw [if_neg (show ¬ k + 1 < O.length + 1 by omega), en2 (k - 1) (by omega)]
          · by_cases q3 : k = ntO O + 1
            · rw [if_pos q3, show k - 1 = ntO O by omega]
            · rw [if_neg q3]
  unfold fn6_splitNotch fn6_splitNotch_b0
  rw [nk_k, t1, nk_dd, h.1]
  by_cases z : ntO O = 0
  · rw [if_pos (show nI (ntO O) ≤ (0 : Int32) by rw [z]; decide)]
    exact ins (fun p => by omega)
  · obtain ⟨q, e⟩ : ∃ q, ntO O = q + 1 := ⟨ntO O - 1, by omega⟩
    have c3 : nI (ntO O) - 1 = nI q := by rw [e, nI_s1]
    rw [if_neg (show ¬ nI (ntO O) ≤ (0 : Int32) from nI_ge (a := 0) (by omega) (by omega)), t3, nk_k, t5, nk_dd, t7, c3, nk_in (show q < cap by omega) (by omega), nk_ck, nI_clamp (by omega), (h.2.2 q (by omega)).2]
    by_cases e0 : dpO O q = dpO O (ntO O) + s
    · rw [if_pos (congrArg nI e0), t2, nk_k, t4, nk_dd, t6, nk_in (show q < cap by omega) (by omega), nk_ck]
      obtain ⟨a, b⟩ := ly_s1 ho hs c (by omega) (by rw [show ntO O - 1 = q by omega]; exact e0) (O.length - (ntO O + 1)) (by omega)
      have eL : lyP O W s (ntO O + 1 + (O.length - (ntO O + 1))) = lyO O W s := by unfold lyO; rw [show ntO O + 1 + (O.length - (ntO O + 1)) = O.length by omega]
      rw [eL] at a b
      have a' : (lyO O W s).length = O.length := by omega
      have gB : ∀ j, j < O.length → bgO (lyO O W s) j = if j = ntO O then bgO O (ntO O) + s else bgO O j := by
        intro j hj
        unfold bgO
        rw [b j (by omega)]
        by_cases q1 : j = ntO O
        · rw [if_pos q1, if_pos q1]; rfl
        · rw [if_neg q1, if_neg q1]
      have gD : ∀ j, j < O.length → dpO (lyO O W s) j = dpO O j := by
        intro j hj
        unfold dpO
        rw [b j (by omega)]
        by_cases q1 : j = ntO O
        · rw [if_pos q1, q1]; rfl
        · rw [if_neg q1]
      have nn : ntO (lyO O W s) = ntO O := by
        refine nt_uni (by omega) (fun j hj => ?_) (fun j hj => ?_)
        · rw [gD _ nl, gD j (by omega)]; exact nt_le ho (by omega)
        · rw [gD _ nl, gD j (by omega)]; exact nt_fst ho hj
      refine ⟨_, rfl, fs_wI _ _ _ (by simp), ?_, ?_, fun k hk => ?_⟩
      · rw [nn, rI_ne _ _ _ (by omega)]; exact h.1
      · rw [a', rI_ne _ _ _ (by omega)]; exact h.2.1
      · rw [a'] at hk
        rw [rI_if, rI_ne _ _ _ (by omega), gD k hk]
        refine ⟨?_, (h.2.2 k hk).2⟩
        unfold enO
        rw [a']
        by_cases q1 : k = q
        · rw [if_pos q1, if_pos (by omega), gB (k + 1) (by omega), if_pos (by omega)]
        · rw [if_neg q1, (h.2.2 k hk).1]
          refine congrArg nI ?_
          by_cases q2 : k + 1 < O.length
          · rw [if_pos q2, en1 k q2, gB (k + 1) q2, if_neg (by omega)]
          · rw [if_neg q2, en2 k q2]
    · rw [if_neg (fun z => e0 (nI_inj (hd q (by omega)) hd2 z))]
      exact ins (fun _ => by rw [show ntO O - 1 = q by omega]; exact e0)
end
