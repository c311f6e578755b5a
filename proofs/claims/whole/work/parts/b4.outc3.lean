section
variable {N o cap W s : Nat} {O : Ou}
/-- a piece as it is when the whole notch is filled -/
def zO (O : Ou) (s k : Nat) : Nat := if k = ntO O then dpO O k + s else dpO O k
theorem ly_full (c : ¬ s < enO O W (ntO O) - bgO O (ntO O)) (k : Nat) : lyP O W s (k + 1) = apO (lyP O W s k) (bgO O k, zO O s k) := by
  show (inO O W s k).foldl apO (lyP O W s k) = _
  unfold inO zO
  by_cases q : k = ntO O
  · rw [if_pos q, if_pos q, if_neg (by rw [q]; exact c)]; rfl
  · rw [if_neg q, if_neg q]; rfl
theorem ap_len (l : Ou) (x : Nat × Nat) : (apO l x).length ≤ l.length + 1 ∧ 0 < (apO l x).length := by
  unfold apO
  by_cases q : 0 < l.length ∧ dpO l (l.length - 1) = x.2
  · rw [if_pos q]; exact ⟨by omega, q.1⟩
  · rw [if_neg q, len_1]; exact ⟨Nat.le_refl _, by omega⟩
theorem ly_flen (c : ¬ s < enO O W (ntO O) - bgO O (ntO O)) : ∀ k, (lyP O W s k).length ≤ k ∧ (0 < k → 0 < (lyP O W s k).length)
  | 0 => ⟨Nat.le_refl _, fun h => absurd h (by decide)⟩
  | k + 1 => by
    have ih := ly_flen c k
    rw [ly_full c k]
    have := ap_len (lyP O W s k) (bgO O k, zO O s k)
    exact ⟨by omega, fun _ => this.2⟩
theorem mgc_loop (hc : cap ≤ 25) (hl : O.length ≤ cap) (c : ¬ s < enO O W (ntO O) - bgO O (ntO O)) (hz : ∀ k, k < O.length → zO O s k < 2147483648) : ∀ m i fuel M, i + m = O.length → 0 < i → m < fuel → OuT M o cap → am_I M o 3 = nI O.length → (∀ j, i ≤ j → j < O.length → am_I M (o + 1) j = nI (enO O W j) ∧ am_I M (o + 2) j = nI (zO O s j)) → (∀ j, j < (lyP O W s i).length → am_I M (o + 2) j = nI (dpO (lyP O W s i) j)) → (∀ j, j + 1 < (lyP O W s i).length → am_I M (o + 1) j = nI (bgO (lyP O W s i) (j + 1))) → am_I M (o + 1) ((lyP O W s i).length - 1) = nI (enO O W (i - 1)) → ∃ M', fn6_mergePieces_b4 N fuel o (nI ((lyP O W s i).length - 1)) (nI i) M = some ((), M') ∧ Fs [o, o + 1, o + 2] M M' ∧ am_I M' o 3 = nI (lyO O W s).length ∧ ∀ k, k < (lyO O W s).length → am_I M' (o + 1) k = nI (enO (lyO O W s) W k) ∧ am_I M' (o + 2) k = nI (dpO (lyO O W s) k) := by
  intro m
  induction m with
  | zero =>
    intro i fuel M hi h0 hf t e3 h1 h2 h3 h4
    obtain ⟨g, rfl⟩ : ∃ g, fuel = g + 1 := ⟨fuel - 1, by omega⟩
    obtain ⟨t1, t2, t3, t4, t5, t6, t7⟩ := id t
    have eL : lyP O W s i = lyO O W s := by unfold lyO; rw [show i = O.length by omega]
    have fl := ly_flen c i
    have fp := fl.2 h0
    rw [eL] at h2 h3 h4 fl fp ⊢
    refine ⟨am_wI M o 3 (nI (lyO O W s).length), ?_, fs_wI _ _ _ (by simp), rI_eq _ _ _ _, fun k hk => ?_⟩
    · show fn6_mergePieces_b4B N (fn6_mergePieces_b4 N g) o _ (nI i) M = _
      unfold fn6_mergePieces_b4B
      rw [nk_k, t1, nk_dd, e3, if_pos (nI_le (by omega) (by omega)), nI_1, show (lyO O W s).length - 1 + 1 = (lyO O W s).length by omega]
    · rw [rI_ne _ _ _ (by omega), rI_ne _ _ _ (by omega)]
      refine ⟨?_, h2 k hk⟩
      unfold enO
      by_cases q : k + 1 < (lyO O W s).length
      · rw [if_pos q]; exact h3 k q
      · rw [if_neg q, show k = (lyO O W s).length - 1 by omega, h4]
        unfold enO
        rw [if_neg (by omega)]
  | succ m ih =>
    intro i fuel M hi h0 hf t e3 h1 h2 h3 h4
    obtain ⟨g, rfl⟩ : ∃ g, fuel = g + 1 := ⟨fuel - 1, by omega⟩
    obtain ⟨t1, t2, t3, t4, t5, t6, t7⟩ := id t
    have fl := ly_flen c i
    have fp := fl.2 h0
    have il : i < O.length := by omega
    obtain ⟨x1, x2⟩ := h1 i (Nat.le_refl i) il
    have y1 := h2 ((lyP O W s i).length - 1) (by omega)
    have dz : ∀ j, j < (lyP O W s i).length → dpO (lyP O W s i) j < 2147483648 := by
      have : ∀ k, k ≤ O.length → ∀ j, j < (lyP O W s k).length → ((lyP O W s k).getD j (0, 0)).2 < 2147483648 := by
        intro k
        induction k with
        | zero => exact fun _ j hj => absurd hj (Nat.not_lt_zero j)
        | succ k ihk =>
          intro hk
          rw [ly_full c k]
          exact ap_all (P := fun x => x.2 < 2147483648) (ihk (by omega)) (hz k (by omega))
      exact fun j hj => this i (by omega) j hj
    have dl := dz ((lyP O W s i).length - 1) (by omega)
    have zi := hz i il
    have cL : (nI ((lyP O W s i).length - 1)).toNatClampNeg = (lyP O W s i).length - 1 := nI_clamp (by omega)
    have ci : (nI i).toNatClampNeg = i := nI_clamp (by omega)
    have j1 : am_in (nI i) cap = true := nk_in (by omega) (by omega)
    have j2 : am_in (nI ((lyP O W s i).length - 1)) cap = true := nk_in (by omega) (by omega)
    have j3 : am_in (nI (lyP O W s i).length) cap = true := nk_in (by omega) (by omega)
    have cl : (nI (lyP O W s i).length).toNatClampNeg = (lyP O W s i).length := nI_clamp (by omega)
    have es : nI ((lyP O W s i).length - 1) + 1 = nI (lyP O W s i).length := by rw [nI_1, show (lyP O W s i).length - 1 + 1 = (lyP O W s i).length by omega]
    have st : fn6_mergePieces_b4 N (g + 1) o (nI ((lyP O W s i).length - 1)) (nI i) M = (if nI (zO O s i) = nI (dpO (lyP O W s i) ((lyP O W s i).length - 1)) then fn6_mergePieces_b4 N g o (nI ((lyP O W s i).length - 1)) (nI (i + 1)) (am_wI M (o + 1) ((lyP O W s i).length - 1) (nI (enO O W i))) else fn6_mergePieces_b4 N g o (nI (lyP O W s i).length) (nI (i + 1)) (am_wI (am_wI M (o + 2) (lyP O W s i).length (nI (zO O s i))) (o + 1) (lyP O W s i).length (nI (enO O W i)))) := by
      show fn6_mergePieces_b4B N (fn6_mergePieces_b4 N g) o _ (nI i) M = _
      unfold fn6_mergePieces_b4B fn6_mergePieces_b42
      have n1 : ¬ o + 1 = o + 2 := by omega
      rw [nk_k, t1, nk_dd, e3, if_neg (nI_ge (by omega) (by omega))]
      simp only [nk_k, eq_self, decide_true, nk_ck, qK_wI, qR_wI, qL_wI, t1, t2, t3, t4, t5, t6, t7, j1, j2, ci, cL, x2, y1, x1, es, j3, cl, rI_ne _ _ _ n1, nI_1]
    rw [st]
    have ei : enO O W (i - 1) = bgO O i := by
      unfold enO
      rw [if_pos (by omega), show i - 1 + 1 = i by omega]
    by_cases q : dpO (lyP O W s i) ((lyP O W s i).length - 1) = zO O s i
    · have ly : lyP O W s (i + 1) = lyP O W s i := by
        rw [ly_full c i]
        unfold apO
        rw [if_pos ⟨fp, q⟩]
      rw [if_pos (congrArg nI q.symm)]
      have f1 : Fs [o, o + 1, o + 2] M (am_wI M (o + 1) ((lyP O W s i).length - 1) (nI (enO O W i))) := fs_wI _ _ _ (by simp)
      obtain ⟨M', a1, a2, a3⟩ := ih (i + 1) g (am_wI M (o + 1) ((lyP O W s i).length - 1) (nI (enO O W i))) (by omega) (by omega) (by omega) (out_fs f1 t) (by rw [rI_ne _ _ _ (by omega)]; exact e3) (fun j hj1 hj2 => by rw [rI_ix _ _ _ (by omega), rI_ne _ _ _ (by omega)]; exact h1 j (by omega) hj2) (by rw [ly]; intro j hj; rw [rI_ne _ _ _ (by omega)]; exact h2 j hj) (by rw [ly]; intro j hj; rw [rI_ix _ _ _ (by omega)]; exact h3 j hj) (by rw [ly, rI_eq, Nat.add_sub_cancel])
      rw [ly] at a1
      exact ⟨M', a1, fs_trans f1 a2, a3⟩
    · have ly : lyP O W s (i + 1) = lyP O W s i ++ [(bgO O i, zO O s i)] := by
        rw [ly_full c i]
        exact ap_new (fun _ => q)
      have ln : (lyP O W s (i + 1)).length = (lyP O W s i).length + 1 := by rw [ly, len_1]
      rw [if_neg (fun e => q (nI_inj dl zi e.symm))]
      have f1 : Fs [o, o + 1, o + 2] M (am_wI (am_wI M (o + 2) (lyP O W s i).length (nI (zO O s i))) (o + 1) (lyP O W s i).length (nI (enO O W i))) := fs_trans (fs_wI _ _ _ (by simp)) (fs_wI _ _ _ (by simp))
      have r1 : ∀ j, am_I (am_wI (am_wI M (o + 2) (lyP O W s i).length (nI (zO O s i))) (o + 1) (lyP O W s i).length (nI (enO O W i))) (o + 1) j = if j = (lyP O W s i).length then nI (enO O W i) else am_I M (o + 1) j := fun j => by rw [rI_if, rI_ne _ _ _ (by omega)]
      have r2 : ∀ j, am_I (am_wI (am_wI M (o + 2) (lyP O W s i).length (nI (zO O s i))) (o + 1) (lyP O W s i).length (nI (enO O W i))) (o + 2) j = if j = (lyP O W s i).length then nI (zO O s i) else am_I M (o + 2) j := fun j => by rw [rI_ne _ _ _ (by omega), rI_if]
      obtain ⟨M', a1, a2, a3⟩ := ih (i + 1) g _ (by omega) (by omega) (by omega) (out_fs f1 t) (by rw [rI_ne _ _ _ (by omega), rI_ne _ _ _ (by omega)]; exact e3) (fun j hj1 hj2 => by rw [r1, r2, if_neg (by omega), if_neg (by omega)]; exact h1 j (by omega) hj2) (fun j hj => by
        rw [r2]
        rw [ln] at hj
        by_cases e : j = (lyP O W s i).length
        · rw [if_pos e, e, ly, dp_n]
        · rw [if_neg e, ly, dp_l (by omega)]; exact h2 j (by omega)) (fun j hj => by
        rw [r1]
        rw [ln] at hj
        rw [if_neg (by omega), ly]
        by_cases e : j + 1 = (lyP O W s i).length
        · rw [e, bg_n, show j = (lyP O W s i).length - 1 by omega, h4, ei]
        · rw [bg_l (by omega)]; exact h3 j (by omega)) (by rw [r1, ln, Nat.add_sub_cancel, if_pos rfl, Nat.add_sub_cancel])
      rw [ln, Nat.add_sub_cancel] at a1
      exact ⟨M', a1, fs_trans f1 a2, a3⟩
/-- the notch found -/
theorem fn_loop {P : Ou} (hc : cap ≤ 25) (hl : P.length ≤ cap) (hd : ∀ k, k < P.length → dpO P k < 2147483648) : ∀ m i fuel M, i + m = P.length → 0 < i → m < fuel → OuT M o cap → am_I M o 3 = nI P.length → (∀ k, k < P.length → am_I M (o + 2) k = nI (dpO P k)) → am_I M o 2 = nI (ntF P i) → ∃ M', fn6_findNotch_b7 N fuel o (nI i) M = some ((), M') ∧ Fs [o] M M' ∧ am_I M' o 2 = nI (ntO P) ∧ am_I M' o 3 = nI P.length := by
  intro m
  induction m with
  | zero =>
    intro i fuel M hi h0 hf t e3 h e2
    obtain ⟨g, rfl⟩ : ∃ g, fuel = g + 1 := ⟨fuel - 1, by omega⟩
    obtain ⟨t1, t2, t3, t4, t5, t6, t7⟩ := id t
    refine ⟨M, ?_, fs_refl _ _, ?_, e3⟩
    · show fn6_findNotch_b7B N (fn6_findNotch_b7 N g) o (nI i) M = _
      unfold fn6_findNotch_b7B
      rw [nk_k, t1, nk_dd, e3, if_pos (nI_le (by omega) (by omega))]
    · rw [e2, show i = P.length by omega]; rfl
  | succ m ih =>
    intro i fuel M hi h0 hf t e3 h e2
    obtain ⟨g, rfl⟩ : ∃ g, fuel = g + 1 := ⟨fuel - 1, by omega⟩
    obtain ⟨t1, t2, t3, t4, t5, t6, t7⟩ := id t
    have nk := (ntF_ok P i h0).1
    have e : ntF P (i + 1) = if dpO P i < dpO P (ntF P i) then i else ntF P i := rfl
    have d1 := hd i (by omega)
    have d2 := hd (ntF P i) (by omega)
    have st : fn6_findNotch_b7 N (g + 1) o (nI i) M = (if nI (dpO P (ntF P i)) ≤ nI (dpO P i) then fn6_findNotch_b7 N g o (nI (i + 1)) M else fn6_findNotch_b7 N g o (nI (i + 1)) (am_wI M o 2 (nI i))) := by
      show fn6_findNotch_b7B N (fn6_findNotch_b7 N g) o (nI i) M = _
      unfold fn6_findNotch_b7B fn6_findNotch_b38
      rw [nk_k, t1, nk_dd, e3, if_neg (nI_ge (by omega) (by omega)), t3, nk_k, t5, nk_dd, t7, nk_in (show i < cap by omega) (by omega), nk_ck, e2, nk_in (show ntF P i < cap by omega) (by omega), nk_ck, nI_clamp (show i < 2147483648 by omega), nI_clamp (show ntF P i < 2147483648 by omega), h i (by omega), h (ntF P i) (by omega), nI_1]
    rw [st]
    by_cases q : dpO P i < dpO P (ntF P i)
    · rw [if_neg (nI_ge q (by omega))]
      have f1 : Fs [o] M (am_wI M o 2 (nI i)) := fs_wI _ _ _ List.mem_cons_self
      obtain ⟨M', a1, a2, a3, a4⟩ := ih (i + 1) g _ (by omega) (by omega) (by omega) (out_fs f1 t) (by rw [rI_ix _ _ _ (by decide)]; exact e3) (fun k hk => by rw [rI_ne _ _ _ (by omega)]; exact h k hk) (by rw [rI_eq, e, if_pos q])
      exact ⟨M', a1, fs_trans f1 a2, a3, a4⟩
    · rw [if_pos (nI_le (by omega) (by omega))]
      exact ih (i + 1) g M (by omega) (by omega) (by omega) t e3 h (by rw [e2, e, if_neg q])
/-- a square laid, the class -/
theorem oc_lay {M : am_Mem} (hN : 100000 ≤ N) (hc : cap ≤ 25) (hl : O.length < cap) (ho : OkO O W) (hW : W < 2147483648) (hs : 0 < s) (hw : s ≤ enO O W (ntO O) - bgO O (ntO O)) (hd : ∀ k, k < O.length → dpO O k < 2147483648) (hd2 : dpO O (ntO O) + s < 2147483648) (t : OuT M o cap) (h : OuC M o O W) : ∃ M', fn6_lay N M o (nI s) = some ((), M') ∧ Fs [o, o + 1, o + 2] M M' ∧ OuC M' o (lyO O W s) W := by
  have nl := nt_lt ho
  have lf := oc_left t hc (by omega) ho h
  have be := bg_en ho nl
  obtain ⟨t1, t2, t3, t4, t5, t6, t7⟩ := id t
  have i1 : am_in (nI (ntO O)) cap = true := nk_in (by omega) (by omega)
  have c1 : (nI (ntO O)).toNatClampNeg = ntO O := nI_clamp (by omega)
  unfold fn6_lay fn6_lay_b0 fn6_lay_b7 fn6_lay_b60
  rw [nk_k, t1, nk_dd, lf, nk_bd, nk_k, t1, nk_dd, t2, nk_k, t4, nk_dd, t6, h.1, i1, nk_ck, c1, (h.2.2 _ nl).1, lw_add]
  by_cases c : s < enO O W (ntO O) - bgO O (ntO O)
  · obtain ⟨M', a1, a2, a3⟩ := sp_c (N := N) hN hc hl ho hs c hd hd2 t h
    rw [if_neg (nI_ge (by omega) (by omega)), t3, nk_k, t5, nk_dd, t7, i1, nk_ck, (h.2.2 _ nl).2, lw_add, a1, nk_bd]
    exact ⟨M', rfl, a2, a3⟩
  · rw [if_pos (nI_le (by omega) (by omega)), t3, nk_k, t5, nk_dd, t7, i1, nk_ck, nk_ck, (h.2.2 _ nl).2, lw_add]
    have f1 : Fs [o, o + 1, o + 2] M (am_wI M (o + 2) (ntO O) (nI (dpO O (ntO O) + s))) := fs_wI _ _ _ (by simp)
    have r1 : ∀ j, am_I (am_wI M (o + 2) (ntO O) (nI (dpO O (ntO O) + s))) (o + 1) j = am_I M (o + 1) j := fun j => by rw [rI_ne _ _ _ (by omega)]
    have r2 : ∀ j, j < O.length → am_I (am_wI M (o + 2) (ntO O) (nI (dpO O (ntO O) + s))) (o + 2) j = nI (zO O s j) := fun j hj => by
      rw [rI_if]
      unfold zO
      by_cases e : j = ntO O
      · rw [if_pos e, if_pos e, e]
      · rw [if_neg e, if_neg e]; exact (h.2.2 j hj).2
    have e3 : am_I (am_wI M (o + 2) (ntO O) (nI (dpO O (ntO O) + s))) o 3 = nI O.length := by rw [rI_ne _ _ _ (by omega)]; exact h.2.1
    have t' := out_fs f1 t
    have hz : ∀ k, k < O.length → zO O s k < 2147483648 := fun k hk => by
      unfold zO
      by_cases e : k = ntO O
      · rw [if_pos e, e]; exact hd2
      · rw [if_neg e]; exact hd k hk
    revert f1 r1 r2 e3 t'
    generalize am_wI M (o + 2) (ntO O) (nI (dpO O (ntO O) + s)) = M1
    intro f1 r1 r2 e3 t'
    have p0 := ho.1
    have ly1 : lyP O W s 1 = [(bgO O 0, zO O s 0)] := by
      rw [ly_full c 0]
      rfl
    have go := mgc_loop (N := N) hc (by omega) c hz (O.length - 1) 1 N M1 (by omega) (by decide) (by omega) t' e3 (fun j hj1 hj2 => ⟨(r1 j).trans (h.2.2 j hj2).1, r2 j hj2⟩) (by
      rw [ly1]
      intro j hj
      have hj' : j < 1 := hj
      rw [show j = 0 by omega, r2 0 p0]; rfl) (by
      rw [ly1]
      intro j hj
      have hj' : j + 1 < 1 := hj
      omega) (by
      rw [ly1]
      show am_I M1 (o + 1) 0 = nI (enO O W 0)
      exact (r1 0).trans (h.2.2 0 p0).1)
    obtain ⟨M2, a1, a2, a3, a4⟩ := go
    rw [ly1] at a1
    have a1' : fn6_mergePieces N M1 o = some ((), M2) := a1
    have t2' := out_fs a2 t'
    obtain ⟨lk, ll, _⟩ := ly_ok ho hs hw
    have fl := (ly_flen c O.length).1
    have fl' : (lyO O W s).length ≤ O.length := fl
    have dz : ∀ k, k ≤ O.length → ∀ j, j < (lyP O W s k).length → ((lyP O W s k).getD j (0, 0)).2 < 2147483648 := by
      intro k
      induction k with
      | zero => exact fun _ j hj => absurd hj (Nat.not_lt_zero j)
      | succ k ihk =>
        intro hk
        rw [ly_full c k]
        exact ap_all (P := fun x => x.2 < 2147483648) (ihk (by omega)) (hz k (by omega))
    have f3 : Fs [o] M2 (am_wI M2 o 2 0) := fs_wI _ _ _ List.mem_cons_self
    have n1 : ntF (lyO O W s) 1 = 0 := by
      show (if dpO (lyO O W s) 0 < dpO (lyO O W s) 0 then 0 else 0) = 0
      rw [if_neg (by omega)]
    obtain ⟨M3, b1, b2, b3, b4⟩ := fn_loop (N := N) (P := lyO O W s) hc (by omega) (fun k hk => dz O.length (Nat.le_refl _) k hk) ((lyO O W s).length - 1) 1 N (am_wI M2 o 2 0) (by have := lk.1; omega) (by decide) (by omega) (out_fs f3 t2') (by rw [rI_ix _ _ _ (by decide)]; exact a3) (fun k hk => by rw [rI_ne _ _ _ (by omega)]; exact (a4 k hk).2) (by rw [rI_eq, n1]; rfl)
    have b1' : fn6_findNotch N M2 o = some ((), M3) := by
      unfold fn6_findNotch fn6_findNotch_b0
      rw [nk_k, t2'.1, nk_dd]
      exact b1
    rw [a1', nk_bd, nk_k, t2'.1, nk_dd, b1', nk_bd]
    refine ⟨M3, rfl, fs_trans f1 (fs_trans a2 (fs_mono (fs_trans f3 b2) (by simp))), b3, b4, fun k hk => ?_⟩
    rw [fs_I b2 (by rw [List.mem_singleton]; omega), fs_I b2 (by rw [List.mem_singleton]; omega), rI_ne _ _ _ (by omega), rI_ne _ _ _ (by omega)]
    exact a4 k hk
end
