def mW : List Nat := [110, 136, 137, 138, 139]
/-- the reference's table holds a list -/
def LmC (M : am_Mem) (T : List Ln) : Prop := am_I M 110 47 = nI T.length ∧ StL (rdL M 136) T
theorem er_perm (T : List Ln) {k : Nat} (h : k < T.length) : T.Perm (T[k] :: T.eraseIdx k) := by
  rw [List.eraseIdx_eq_take_drop_succ]
  have e : T = T.take k ++ T[k] :: T.drop (k + 1) := by
    rw [← List.drop_eq_getElem_cons h, List.take_append_drop]
  conv => lhs; rw [e]
  exact List.perm_middle
theorem dp_loop {N n : Nat} (hn : n ≤ 80) : ∀ c k fuel M, k + c + 1 = n → c < fuel → Shp M → am_I M 110 47 = nI n → ∃ M', fn12_drops_b2 N fuel 110 (nI k) M = some ((), M') ∧ Fs mW M M' ∧ (∀ i, ¬ i = 47 → am_I M' 110 i = am_I M 110 i) ∧ am_I M' 110 47 = nI (n - 1) ∧ (∀ i, i < k → rdL M' 136 i = rdL M 136 i) ∧ ∀ i, k ≤ i → i + 1 < n → rdL M' 136 i = rdL M 136 (i + 1) := by
  intro c
  induction c with
  | zero =>
    intro k fuel M hk hf s h47
    obtain ⟨g, rfl⟩ : ∃ g, fuel = g + 1 := ⟨fuel - 1, by omega⟩
    refine ⟨am_wI M 110 47 (nI (n - 1)), ?_, fs_wI _ _ _ (by decide), fun i hi => rI_ix _ _ _ hi, rI_eq _ _ _ _, fun i hi => by rw [rd_o (by omega)], fun i h1 h2 => by omega⟩
    show fn12_drops_b2B N (fn12_drops_b2 N g) 110 (nI k) M = _
    unfold fn12_drops_b2B
    rw [nk_k, sk110 s, nk_dd, h47, nI_1, if_pos (nI_le (by omega) (by omega)), show nI n - 1 = nI (n - 1) from nk_sub n 1 (by omega)]
  | succ c ih =>
    intro k fuel M hk hf s h47
    obtain ⟨g, rfl⟩ : ∃ g, fuel = g + 1 := ⟨fuel - 1, by omega⟩
    have f0 : Fs mW M (w4 M 136 k (rdL M 136 (k + 1))) := fs_w4 M _ _ (by decide) (by decide) (by decide) (by decide)
    have o110 : am_I (w4 M 136 k (rdL M 136 (k + 1))) 110 = am_I M 110 := w4_o _ _ _ (by decide) (by decide) (by decide) (by decide)
    obtain ⟨M', e, f1, d1, d2, d3, d4⟩ := ih (k + 1) g _ (by omega) (by omega) (fs_shp f0 s) (by rw [o110]; exact h47)
    refine ⟨M', ?_, fs_trans f0 f1, fun i hi => by rw [d1 i hi, o110], d2, fun i hi => ?_, fun i h1 h2 => ?_⟩
    · rw [← e]
      have i1 : am_in (nI (k + 1)) 80 = true := nk_in (by omega) (by decide)
      have i2 : am_in (nI k) 80 = true := nk_in (by omega) (by decide)
      have l1 : (nI (k + 1)).toNatClampNeg = k + 1 := nI_clamp (by omega)
      have l2 : (nI k).toNatClampNeg = k := nI_clamp (by omega)
      have hle : ¬ nI n ≤ nI (k + 1) := nI_ge (by omega) (by omega)
      show fn12_drops_b2B N (fn12_drops_b2 N g) 110 (nI k) M = _
      unfold fn12_drops_b2B w4 rdL
      simp (disch := decide) only [nk_k, sk110 s, sr110_43 s, sr110_44 s, sr110_45 s, sr110_46 s, sk136 s, sk137 s, sk138 s, sk139 s, sl136 s, sl137 s, sl138 s, sl139 s, eq_self, decide_true, nk_ck, h47, nI_1, hle, if_false, i1, i2, l1, l2, rI_ne]
    · rw [d3 i (by omega), rd_w4, upL_ne _ _ (by omega)]
    · by_cases h3 : i = k
      · subst h3
        rw [d3 i (by omega), rd_w4, upL_eq]
      · rw [d4 i (by omega) h2, rd_w4, upL_ne _ _ (by omega)]
theorem dp_ok {N : Nat} (hN : 100000 ≤ N) {M : am_Mem} {T : List Ln} {k : Nat} (s : Shp M) (c : LmC M T) (hk : k < T.length) (hl : T.length ≤ 80) : ∃ M', fn12_drops N M 110 (nI k) = some ((), M') ∧ Fs mW M M' ∧ (∀ i, ¬ i = 47 → am_I M' 110 i = am_I M 110 i) ∧ LmC M' (T.eraseIdx k) := by
  obtain ⟨M', e, f1, d1, d2, d3, d4⟩ := dp_loop (N := N) hl (T.length - (k + 1)) k N M (by omega) (by omega) s c.1
  have el : (T.eraseIdx k).length = T.length - 1 := List.length_eraseIdx_of_lt hk
  refine ⟨M', e, f1, d1, by rw [d2, el], fun i hi => ?_⟩
  by_cases h : i < k
  · rw [d3 i h, List.getElem_eraseIdx_of_lt hi h]
    exact c.2 i (by omega)
  · rw [d4 i (by omega) (by omega), List.getElem_eraseIdx_of_ge hi (by omega)]
    exact c.2 (i + 1) (by omega)
def tch (n t : Ln) : Prop := lD t = lD n ∧ lL n ≤ lR t ∧ lL t ≤ lR n
theorem cm_ab {N : Nat} (hN : 100000 ≤ N) : ∀ mm fuel k T n M, T.length * 81 + (80 - k) ≤ mm → mm < fuel → T.length ≤ 79 → k ≤ T.length → Shp M → LmC M T → lL n < lR n → (∀ t ∈ T, lL t < lR t) → (∀ i (h : i < T.length), i < k → ¬ tch n T[i]) →
    ∃ n' T' M', fn12_comes_b13 N fuel 110 n.1 n.2.1 n.2.2.1 n.2.2.2 (nI k) M = fn12_comes_b145 N N 110 n'.1 n'.2.1 n'.2.2.1 n'.2.2.2 (nI T'.length) M' ∧ Fs mW M M' ∧ (∀ i, ¬ i = 47 → am_I M' 110 i = am_I M 110 i) ∧ LmC M' T' ∧ Eqv (n :: T) (n' :: T') ∧ T'.Sublist T ∧ lL n' < lR n' ∧ ∀ t ∈ T', ¬ tch n' t := by
  intro mm
  induction mm with
  | zero => intro fuel k T n M h1; omega
  | succ mm ih =>
    intro fuel k T n M h1 hf h79 hk s c hn ht htc
    obtain ⟨g, rfl⟩ : ∃ g, fuel = g + 1 := ⟨fuel - 1, by omega⟩
    by_cases hke : k = T.length
    · subst hke
      refine ⟨n, T, M, ?_, fs_refl _ _, fun _ _ => rfl, c, eqv_refl _, List.Sublist.refl _, hn, fun t htm => ?_⟩
      · show fn12_comes_b13B N (fn12_comes_b13 N g) 110 n.1 n.2.1 n.2.2.1 n.2.2.2 (nI T.length) M = _
        unfold fn12_comes_b13B
        rw [nk_k, sk110 s, nk_dd, c.1, if_pos (nI_le (Nat.le_refl _) (by omega))]
      · obtain ⟨i, hi, rfl⟩ := List.getElem_of_mem htm
        exact htc i hi hi
    · have hk' : k < T.length := by omega
      have hle : ¬ nI T.length ≤ nI k := nI_ge hk' (by omega)
      have i1 : am_in (nI k) 80 = true := nk_in (by omega) (by decide)
      have l1 : (nI k).toNatClampNeg = k := nI_clamp (by omega)
      have rd := c.2 k hk'
      have a1 : am_I M 136 k = (T[k]).1 := congrArg (fun x => x.1) rd
      have a2 : am_I M 137 k = (T[k]).2.1 := congrArg (fun x => x.2.1) rd
      have a3 : am_I M 138 k = (T[k]).2.2.1 := congrArg (fun x => x.2.2.1) rd
      have a4 : am_I M 139 k = (T[k]).2.2.2 := congrArg (fun x => x.2.2.2) rd
      have tk := ht T[k] (List.getElem_mem hk')
      show ∃ n' T' M', fn12_comes_b13B N (fn12_comes_b13 N g) 110 n.1 n.2.1 n.2.2.1 n.2.2.2 (nI k) M = _ ∧ _
      unfold fn12_comes_b13B fn12_comes_b57 fn12_comes_b87 fn12_comes_b113 fn12_comes_b127
      obtain ⟨Md, ed, fd, dd, cd⟩ := dp_ok hN s c hk' (by omega)
      simp only [nk_k, sk110 s, sr110_43 s, sr110_44 s, sr110_45 s, sr110_46 s, sk136 s, sk137 s, sk138 s, sk139 s, sl136 s, sl137 s, sl138 s, sl139 s, eq_self, decide_true, nk_ck, c.1, hle, if_false, i1, l1, a1, a2, a3, a4, nI_1, ed, nk_bd]
      have skip : ¬ tch n T[k] → ∃ n' T' M', fn12_comes_b13 N g 110 n.1 n.2.1 n.2.2.1 n.2.2.2 (nI (k + 1)) M = fn12_comes_b145 N N 110 n'.1 n'.2.1 n'.2.2.1 n'.2.2.2 (nI T'.length) M' ∧ Fs mW M M' ∧ (∀ i, ¬ i = 47 → am_I M' 110 i = am_I M 110 i) ∧ LmC M' T' ∧ Eqv (n :: T) (n' :: T') ∧ T'.Sublist T ∧ lL n' < lR n' ∧ ∀ t ∈ T', ¬ tch n' t := by
        intro hno
        refine ih g (k + 1) T n M (by omega) (by omega) h79 (by omega) s c hn ht (fun i h h2 => ?_)
        by_cases e : i = k
        · subst e; exact hno
        · exact htc i h (by omega)
      by_cases h1 : (T[k]).1 = n.1
      · rw [if_pos h1]
        have hd : lD T[k] = lD n := by unfold lD; rw [h1]
        by_cases h2 : (T[k]).2.2.1 < n.2.1
        · rw [if_pos h2]
          refine skip (fun x => ?_)
          rw [Int32.lt_iff_toInt_lt] at h2
          have := x.2.1
          unfold lL lR at this
          omega
        · rw [if_neg h2]
          by_cases h3 : (T[k]).2.1 ≤ n.2.2.1
          · rw [if_pos h3]
            rw [Int32.lt_iff_toInt_lt] at h2
            rw [Int32.le_iff_toInt_le] at h3
            have el : (T.eraseIdx k).length = T.length - 1 := List.length_eraseIdx_of_lt hk'
            have sub := List.eraseIdx_sublist T k
            have go : ∀ m : Ln, m.1 = n.1 → lL m = min (lL n) (lL T[k]) → lR m = max (lR n) (lR T[k]) → lF m = lF n + lF T[k] → ∃ n' T' M', fn12_comes_b13 N g 110 n.1 m.2.1 m.2.2.1 m.2.2.2 0 Md = fn12_comes_b145 N N 110 n'.1 n'.2.1 n'.2.2.1 n'.2.2.2 (nI T'.length) M' ∧ Fs mW M M' ∧ (∀ i, ¬ i = 47 → am_I M' 110 i = am_I M 110 i) ∧ LmC M' T' ∧ Eqv (n :: T) (n' :: T') ∧ T'.Sublist T ∧ lL n' < lR n' ∧ ∀ t ∈ T', ¬ tch n' t := by
              intro m m0 m1 m2 m3
              obtain ⟨n', T', M', e, f1, d1, c1, q1, q2, q3, q4⟩ := ih g 0 (T.eraseIdx k) m Md (by omega) (by omega) (by omega) (by omega) (fs_shp fd s) cd (by omega) (fun t htm => ht t (sub.subset htm)) (fun i _ h => by omega)
              rw [m0] at e
              refine ⟨n', T', M', e, fs_trans fd f1, fun i hi => by rw [d1 i hi, dd i hi], c1, ?_, q2.trans sub, q3, q4⟩
              refine eqv_trans (eqv_trans (eqv_cons n (eqv_perm (er_perm T hk'))) ?_) q1
              have hm0 : lD m = lD n := by unfold lD; rw [m0]
              exact eqv_merge (T.eraseIdx k) hd.symm (by unfold lL lR; omega) (by unfold lL lR; omega) hn tk hm0 m1 m2 m3
            by_cases h4 : n.2.1 ≤ (T[k]).2.1
            · rw [if_pos h4]
              by_cases h5 : (T[k]).2.2.1 ≤ n.2.2.1
              · rw [if_pos h5]
                refine go (n.1, n.2.1, n.2.2.1, n.2.2.2 + (T[k]).2.2.2) rfl ?_ ?_ rfl
                · rw [Int32.le_iff_toInt_le] at h4; show lL n = _; unfold lL; omega
                · rw [Int32.le_iff_toInt_le] at h5; show lR n = _; unfold lR; omega
              · rw [if_neg h5]
                refine go (n.1, n.2.1, (T[k]).2.2.1, n.2.2.2 + (T[k]).2.2.2) rfl ?_ ?_ rfl
                · rw [Int32.le_iff_toInt_le] at h4; show lL n = _; unfold lL; omega
                · rw [Int32.le_iff_toInt_le] at h5; show lR T[k] = _; unfold lR; omega
            · rw [if_neg h4]
              by_cases h5 : (T[k]).2.2.1 ≤ n.2.2.1
              · rw [if_pos h5]
                refine go (n.1, (T[k]).2.1, n.2.2.1, n.2.2.2 + (T[k]).2.2.2) rfl ?_ ?_ rfl
                · rw [Int32.le_iff_toInt_le] at h4; show lL T[k] = _; unfold lL; omega
                · rw [Int32.le_iff_toInt_le] at h5; show lR n = _; unfold lR; omega
              · rw [if_neg h5]
                refine go (n.1, (T[k]).2.1, (T[k]).2.2.1, n.2.2.2 + (T[k]).2.2.2) rfl ?_ ?_ rfl
                · rw [Int32.le_iff_toInt_le] at h4; show lL T[k] = _; unfold lL; omega
                · rw [Int32.le_iff_toInt_le] at h5; show lR T[k] = _; unfold lR; omega
          · rw [if_neg h3]
            refine skip (fun x => ?_)
            rw [Int32.le_iff_toInt_le] at h3
            have := x.2.2
            unfold lL lR at this
            omega
      · rw [if_neg h1]
        exact skip (fun x => h1 (Int32.toInt_inj.mp x.1))
theorem can_sd {T : List Ln} (c : Can T) : lnSd T := by
  obtain ⟨h1, h2⟩ := c
  unfold lnSd
  induction T with
  | nil => exact List.Pairwise.nil
  | cons a l ih =>
    rw [List.pairwise_cons] at h1 ⊢
    refine ⟨fun b hb => ?_, ih h1.2 (fun t ht => h2 t (List.mem_cons_of_mem _ ht))⟩
    have := h1.1 b hb
    have ha := h2 a List.mem_cons_self
    rw [lnGt_iff]
    unfold sep at this
    omega
theorem can_ins {n : Ln} (hn : lL n < lR n) : ∀ {T : List Ln}, Can T → (∀ t ∈ T, ¬ tch n t) → Can (lnIns n T)
  | [], _, _ => ⟨List.pairwise_singleton _ _, fun t ht => by
    rw [show lnIns n [] = [n] from rfl, List.mem_singleton] at ht
    subst ht
    exact hn⟩
  | a :: l, c, ht => by
    obtain ⟨h1, h2⟩ := c
    rw [List.pairwise_cons] at h1
    have ha := h2 a List.mem_cons_self
    have ta := ht a List.mem_cons_self
    have pos : ∀ t ∈ lnIns n (a :: l), lL t < lR t := fun t htm => by
      rcases List.mem_cons.mp ((lnIns_perm n (a :: l)).mem_iff.mp htm) with e | e
      · subst e; exact hn
      · exact h2 t e
    refine ⟨?_, pos⟩
    unfold lnIns
    unfold tch at ta
    by_cases g : lnGt a n = true
    · rw [if_pos g]
      rw [lnGt_iff] at g
      rw [List.pairwise_cons, List.pairwise_cons]
      have sna : sep n a := by unfold sep; omega
      refine ⟨fun b hb => ?_, h1⟩
      rcases List.mem_cons.mp hb with e | e
      · subst e; exact sna
      · have sab := h1.1 b e
        unfold sep at sna sab ⊢
        omega
    · rw [if_neg g]
      rw [lnGt_iff] at g
      have ih := can_ins hn (T := l) ⟨h1.2, fun t htm => h2 t (List.mem_cons_of_mem _ htm)⟩ (fun t htm => ht t (List.mem_cons_of_mem _ htm))
      rw [List.pairwise_cons]
      refine ⟨fun b hb => ?_, ih.1⟩
      rcases List.mem_cons.mp ((lnIns_perm n l).mem_iff.mp hb) with e | e
      · subst e; unfold sep; omega
      · exact h1.1 b e
theorem cm_fin {N : Nat} {M : am_Mem} (s : Shp M) {j : Nat} (hj : j < 80) (q : Ln) : fn12_comes_b260 N 110 q.1 q.2.1 q.2.2.1 q.2.2.2 (nI j) M = some ((), am_wI (w4 M 136 j q) 110 47 (am_I M 110 47 + 1)) := by
  have i2 : am_in (nI j) 80 = true := nk_in hj (by decide)
  have l2 : (nI j).toNatClampNeg = j := nI_clamp (by omega)
  unfold fn12_comes_b260 w4
  simp (disch := decide) only [nk_k, sk110 s, sr110_43 s, sr110_44 s, sr110_45 s, sr110_46 s, sk136 s, sk137 s, sk138 s, sk139 s, sl136 s, sl137 s, sl138 s, sl139 s, eq_self, decide_true, nk_ck, i2, l2, rI_ne]
theorem cm_ins {N : Nat} (q : Ln) : ∀ j fuel M, j < fuel → j < 80 → Shp M → ∃ M', fn12_comes_b145 N fuel 110 q.1 q.2.1 q.2.2.1 q.2.2.2 (nI j) M = some ((), M') ∧ Fs mW M M' ∧ rdL M' 136 = shL q j (rdL M 136) ∧ am_I M' 110 47 = am_I M 110 47 + 1 ∧ ∀ i, ¬ i = 47 → am_I M' 110 i = am_I M 110 i := by
  intro j
  have o110 : ∀ M j q, am_I (w4 M 136 j q) 110 = am_I M 110 := fun M j q => w4_o _ _ _ (by decide) (by decide) (by decide) (by decide)
  have fin : ∀ j M, j < 80 → Shp M → ∃ M', fn12_comes_b260 N 110 q.1 q.2.1 q.2.2.1 q.2.2.2 (nI j) M = some ((), M') ∧ Fs mW M M' ∧ rdL M' 136 = upL (rdL M 136) j q ∧ am_I M' 110 47 = am_I M 110 47 + 1 ∧ ∀ i, ¬ i = 47 → am_I M' 110 i = am_I M 110 i := by
    intro j M hj s
    exact ⟨_, cm_fin s hj q, fs_trans (fs_w4 M j q (by decide) (by decide) (by decide) (by decide)) (fs_wI _ _ _ (by decide)), by rw [rd_o (by omega), rd_w4], rI_eq _ _ _ _, fun i hi => by rw [rI_ix _ _ _ hi, o110]⟩
  induction j with
  | zero =>
    intro fuel M hf hj s
    obtain ⟨g, rfl⟩ : ∃ g, fuel = g + 1 := ⟨fuel - 1, by omega⟩
    obtain ⟨M', e, f1, c1, d1⟩ := fin 0 M hj s
    refine ⟨M', ?_, f1, c1, d1⟩
    show fn12_comes_b145B N (fn12_comes_b145 N g) 110 q.1 q.2.1 q.2.2.1 q.2.2.2 (nI 0) M = _
    unfold fn12_comes_b145B
    rw [if_pos (show nI 0 ≤ 0 from by decide), e]
  | succ j ih =>
    intro fuel M hf hj s
    obtain ⟨g, rfl⟩ : ∃ g, fuel = g + 1 := ⟨fuel - 1, by omega⟩
    have hz : ¬ nI (j + 1) ≤ 0 := nI_nle (by omega) (by omega)
    have e1 : nI (j + 1) - 1 = nI j := nI_pred j
    have e2 : nI (j + 1) + (-1) = nI j := pk_m1 j
    have i1 : am_in (nI j) 80 = true := nk_in (by omega) (by decide)
    have l1 : (nI j).toNatClampNeg = j := nI_clamp (by omega)
    have i2 : am_in (nI (j + 1)) 80 = true := nk_in (by omega) (by decide)
    have l2 : (nI (j + 1)).toNatClampNeg = j + 1 := nI_clamp (by omega)
    have sh : fn12_comes_b190 N (fn12_comes_b145 N g) 110 q.1 q.2.1 q.2.2.1 q.2.2.2 (nI (j + 1)) M = fn12_comes_b145 N g 110 q.1 q.2.1 q.2.2.1 q.2.2.2 (nI j) (w4 M 136 (j + 1) (rdL M 136 j)) := by
      unfold fn12_comes_b190 w4 rdL
      simp (disch := decide) only [nk_k, sk110 s, sr110_43 s, sr110_44 s, sr110_45 s, sr110_46 s, sk136 s, sk137 s, sk138 s, sk139 s, sl136 s, sl137 s, sl138 s, sl139 s, eq_self, decide_true, nk_ck, e1, e2, i1, i2, l1, l2, rI_ne]
    have r1 : am_I M 136 j = (rdL M 136 j).1 := rfl
    have r2 : am_I M 137 j = (rdL M 136 j).2.1 := rfl
    show ∃ M', fn12_comes_b145B N (fn12_comes_b145 N g) 110 q.1 q.2.1 q.2.2.1 q.2.2.2 (nI (j + 1)) M = _ ∧ _
    unfold fn12_comes_b145B
    simp only [hz, if_false, nk_k, sk110 s, sr110_43 s, sr110_44 s, sk136 s, sk137 s, sl136 s, sl137 s, eq_self, decide_true, nk_ck, e1, i1, l1, r1, r2, sh]
    unfold shL
    rw [cl_gt]
    have go : ∃ M', fn12_comes_b145 N g 110 q.1 q.2.1 q.2.2.1 q.2.2.2 (nI j) (w4 M 136 (j + 1) (rdL M 136 j)) = some ((), M') ∧ Fs mW M M' ∧ rdL M' 136 = shL q j (upL (rdL M 136) (j + 1) (rdL M 136 j)) ∧ am_I M' 110 47 = am_I M 110 47 + 1 ∧ ∀ i, ¬ i = 47 → am_I M' 110 i = am_I M 110 i := by
      have f0 : Fs mW M (w4 M 136 (j + 1) (rdL M 136 j)) := fs_w4 M _ _ (by decide) (by decide) (by decide) (by decide)
      obtain ⟨M', e, f1, c1, d1, d2⟩ := ih g _ (by omega) (by omega) (fs_shp f0 s)
      exact ⟨M', e, fs_trans f0 f1, by rw [c1, rd_w4], by rw [d1, o110], fun i hi => by rw [d2 i hi, o110]⟩
    by_cases h1 : q.1 < (rdL M 136 j).1
    · rw [if_pos h1, decide_eq_true h1]
      exact go
    · rw [if_neg h1, decide_eq_false h1, Bool.false_or]
      by_cases h2 : (rdL M 136 j).1 = q.1
      · rw [if_pos h2, decide_eq_true h2, Bool.true_and]
        by_cases h3 : (rdL M 136 j).2.1 ≤ q.2.1
        · rw [if_pos h3, decide_eq_false (Int32.not_lt.mpr h3), if_neg (by decide)]
          exact fin (j + 1) M hj s
        · rw [if_neg h3, decide_eq_true (Int32.not_le.mp h3), if_pos rfl]
          exact go
      · rw [if_neg h2, decide_eq_false h2, Bool.false_and, if_neg (by decide)]
        exact fin (j + 1) M hj s
theorem cm_side {N : Nat} (hN : 100000 ≤ N) {M : am_Mem} {T : List Ln} (s : Shp M) (c : LmC M T) (hl : T.length ≤ 79) (hc : Can T) {n : Ln} (hn : lL n < lR n) : ∃ M' T', fn12_comes N M 110 n.1 n.2.1 n.2.2.1 n.2.2.2 = some ((), M') ∧ Fs mW M M' ∧ (∀ i, ¬ i = 47 → am_I M' 110 i = am_I M 110 i) ∧ LmC M' T' ∧ Can T' ∧ Eqv (n :: T) T' ∧ T'.length ≤ T.length + 1 := by
  obtain ⟨n', T1, M1, e1, f1, d1, c1, q1, q2, q3, q4⟩ := cm_ab hN (T.length * 81 + 80) N 0 T n M (by omega) (by omega) hl (by omega) s c hn hc.2 (fun i _ h => by omega)
  have hT1 : Can T1 := ⟨hc.1.sublist q2, fun t ht => hc.2 t (q2.subset ht)⟩
  have hl1 := q2.length_le
  have s1 := fs_shp f1 s
  obtain ⟨M2, e2, f2, r2, d2, d3⟩ := cm_ins (N := N) n' T1.length N M1 (by omega) (by omega) s1
  refine ⟨M2, lnIns n' T1, ?_, fs_trans f1 f2, fun i hi => by rw [d3 i hi, d1 i hi], ⟨?_, ?_⟩, can_ins q3 hT1 q4, eqv_trans q1 (eqv_symm (eqv_perm (lnIns_perm n' T1))), ?_⟩
  · show fn12_comes_b13 N N 110 n.1 n.2.1 n.2.2.1 n.2.2.2 (nI 0) M = _
    rw [e1, e2]
  · rw [d2, c1.1, nI_1, (lnIns_perm n' T1).length_eq]; rfl
  · rw [r2]
    exact shL_ins n' T1.length T1 _ rfl (can_sd hT1) c1.2
  · rw [(lnIns_perm n' T1).length_eq]
    show T1.length + 1 ≤ _
    omega
