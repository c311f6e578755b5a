/-- what the class leaves as it was while it takes a text over -/
def TxF (W : List Nat) (M M' : am_Mem) : Prop := am_n M ≤ am_n M' ∧ ∀ a, a ≤ am_n M → am_K M' a = am_K M a ∧ am_L M' a = am_L M a ∧ (¬ a = 105 → am_R M' a = am_R M a) ∧ (a ∉ W → am_I M' a = am_I M a ∧ am_J M' a = am_J M a)
theorem txf_fr {W Q : List Nat} {M M' : am_Mem} (h : am_Fr Q M M') (hs : ∀ a ∈ Q, a ∈ W) : TxF W M M' := ⟨h.1, fun a ha => by
  obtain ⟨h1, h2, h3, h4⟩ := h.2 a ha
  exact ⟨h1, h2, fun _ => h3, fun hw => h4 (fun hq => hw (hs a hq))⟩⟩
theorem txf_trans {W : List Nat} {M M1 M2 : am_Mem} (h : TxF W M M1) (g : TxF W M1 M2) : TxF W M M2 := by
  refine ⟨Nat.le_trans h.1 g.1, fun a ha => ?_⟩
  obtain ⟨h1, h2, h3, h4⟩ := h.2 a ha
  obtain ⟨g1, g2, g3, g4⟩ := g.2 a (Nat.le_trans ha h.1)
  exact ⟨g1.trans h1, g2.trans h2, fun n => (g3 n).trans (h3 n), fun hw => ⟨(g4 hw).1.trans (h4 hw).1, (g4 hw).2.trans (h4 hw).2⟩⟩
theorem txf_wR {W : List Nat} (M : am_Mem) (i v : Nat) : TxF W M (am_wR M 105 i v) := ⟨Nat.le_refl _, fun a _ => ⟨by rw [qK_wR], by rw [qL_wR], fun n => rR_ne _ _ _ n, fun _ => ⟨by rw [qI_wR], by rw [qJ_wR]⟩⟩⟩
theorem txf_I {W : List Nat} {M M' : am_Mem} (h : TxF W M M') {a : Nat} (ha : a ≤ am_n M) (hw : a ∉ W) : am_I M' a = am_I M a := ((h.2 a ha).2.2.2 hw).1
theorem txf_J {W : List Nat} {M M' : am_Mem} (h : TxF W M M') {a : Nat} (ha : a ≤ am_n M) (hw : a ∉ W) : am_J M' a = am_J M a := ((h.2 a ha).2.2.2 hw).2
theorem txf_R {W : List Nat} {M M' : am_Mem} (h : TxF W M M') {a : Nat} (ha : a ≤ am_n M) (hn : ¬ a = 105) : am_R M' a = am_R M a := (h.2 a ha).2.2.1 hn
theorem txf_dyn {W : List Nat} {M M' : am_Mem} (h : TxF W M M') (hW : ∀ a ∈ W, a ≤ 141) : Dyn M M' := ⟨h.1, fun a h1 h2 => by
  obtain ⟨g1, g2, g3, g4⟩ := h.2 a h2
  have := g4 (fun hw => by have := hW a hw; omega)
  exact ⟨g1, g2, g3 (by omega), this.1, this.2⟩⟩
def tyW : List Nat := 104 :: txW
theorem tyW_le : ∀ a ∈ tyW, a ≤ 141 := by decide
section
variable {N : Nat} {D : List Ld}
/-- one line after the other -/
theorem tx_l (hN : 100000 ≤ N) (hD : D.length ≤ 6) (ok : ∀ d ∈ D, LdOk d) : ∀ m i fuel M, i + m = D.length → m < fuel → Shp M → am_I M 2 8 = nI D.length → (∀ j (hj : j < D.length), LdC M j (D[j])) → am_I M 104 1 = nI i → (∀ j (hj : j < D.length), j < i → ∃ q, LcT M (am_R M 105 j) (D[j]) q) → ∃ M', fn11_text_b63 N fuel 1 (nI i) M = some (nI D.length, M') ∧ Shp M' ∧ TxF tyW M M' ∧ am_I M' 104 1 = nI D.length ∧ (∀ y, ¬ y = 1 → am_I M' 104 y = am_I M 104 y) ∧ ∀ j (hj : j < D.length), ∃ q, LcT M' (am_R M' 105 j) (D[j]) q := by
  intro m
  induction m with
  | zero =>
    intro i fuel M hi hf s e8 lc e1 h
    obtain ⟨g, rfl⟩ : ∃ g, fuel = g + 1 := ⟨fuel - 1, by omega⟩
    have e : i = D.length := by omega
    subst e
    refine ⟨M, ?_, s, txf_fr (fr_refl [] M) (fun a ha => absurd ha List.not_mem_nil), e1, fun _ _ => rfl, fun j hj => h j hj hj⟩
    show fn11_text_b63B N (fn11_text_b63 N g) 1 (nI D.length) M = _
    unfold fn11_text_b63B
    rw [nk_k, sk1 s, nk_dd, sr1_0 s, nk_k, sk2 s, nk_dd, e8, if_pos (nI_le (Nat.le_refl _) (by omega)), sr1_8 s, nk_k, sk104 s, nk_dd, e1]
  | succ m ih =>
    intro i fuel M hi hf s e8 lc e1 h
    obtain ⟨g, rfl⟩ : ∃ g, fuel = g + 1 := ⟨fuel - 1, by omega⟩
    have il : i < D.length := by omega
    have n141 := s.1
    have od := ok (D[i]) (List.getElem_mem il)
    have st : fn11_text_b63 N (g + 1) 1 (nI i) M = (if am_I M 5 i = 0 then am_bd (fn11_netTiling N M 1 (nI i)) (fun v6 M7 => fn11_text_b103 N (fn11_text_b63 N g) 104 v6 1 (nI i) M7) else am_bd (fn11_drawnTiling N M 1 (nI i)) (fun v9 M10 => fn11_text_b103 N (fn11_text_b63 N g) 104 v9 1 (nI i) M10)) := by
      show fn11_text_b63B N (fn11_text_b63 N g) 1 (nI i) M = _
      unfold fn11_text_b63B
      rw [nk_k, sk1 s, nk_dd, sr1_0 s, nk_k, sk2 s, nk_dd, e8, if_neg (nI_ge (by omega) (by omega)), sr2_9 s, nk_k, sk5 s, nk_dd, sl5 s, nk_in (show i < 6 by omega) (by decide), nk_ck, nI_clamp (by omega), sr1_8 s]
    rw [st]
    have cont : ∀ t q M1, am_Fr txW M M1 → am_n M < t → LcT M1 t (D[i]) q → ∃ M', fn11_text_b103 N (fn11_text_b63 N g) 104 t 1 (nI i) M1 = some (nI D.length, M') ∧ Shp M' ∧ TxF tyW M M' ∧ am_I M' 104 1 = nI D.length ∧ (∀ y, ¬ y = 1 → am_I M' 104 y = am_I M 104 y) ∧ ∀ j (hj : j < D.length), ∃ q, LcT M' (am_R M' 105 j) (D[j]) q := by
      intro t q M1 fr tn lt
      have s1 := shp_fr s fr
      have x1 : am_I M1 104 1 = nI i := by rw [fr_I fr (by omega) (by decide)]; exact e1
      have x4 : ∀ y, am_I M1 104 y = am_I M 104 y := fun y => by rw [fr_I fr (by omega) (by decide)]
      have d1 : Dyn M1 (am_wI (am_wR M1 105 i t) 104 1 (nI (i + 1))) := dyn_trans (dyn_wR _ _ (by decide)) (dyn_wI _ _ (by decide))
      have f1 : TxF tyW M (am_wI (am_wR M1 105 i t) 104 1 (nI (i + 1))) := txf_trans (txf_fr fr (by decide)) (txf_trans (txf_wR M1 i t) (txf_fr (fs_fr (fs_wI (W := [104]) _ _ _ List.mem_cons_self)) (by decide)))
      have s2 : Shp (am_wI (am_wR M1 105 i t) 104 1 (nI (i + 1))) := shp_wI (shp_wRd s1 105 i t (Or.inl rfl)) _ _ _
      have y1 : am_I (am_wI (am_wR M1 105 i t) 104 1 (nI (i + 1))) 104 1 = nI (i + 1) := rI_eq _ _ _ _
      have y2 : ∀ y, ¬ y = 1 → am_I (am_wI (am_wR M1 105 i t) 104 1 (nI (i + 1))) 104 y = am_I M 104 y := fun y hy => by rw [rI_ix _ _ _ hy, qI_wR]; exact x4 y
      have yR : ∀ j, am_R (am_wI (am_wR M1 105 i t) 104 1 (nI (i + 1))) 105 j = if j = i then t else am_R M 105 j := fun j => by
        rw [qR_wI]
        by_cases e : j = i
        · rw [if_pos e, e, rR_eq]
        · rw [if_neg e, rR_ix _ _ _ e, fr_R fr (by omega)]
      have st2 : fn11_text_b103 N (fn11_text_b63 N g) 104 t 1 (nI i) M1 = fn11_text_b63 N g 1 (nI (i + 1)) (am_wI (am_wR M1 105 i t) 104 1 (nI (i + 1))) := by
        unfold fn11_text_b103 fn9_put fn9_put_b0 fn9_put_b29
        rw [nk_k, sk104 s1, nk_dd, nk_dd, x1, if_neg (show ¬ (12 : Int32) ≤ nI i from nI_ge (b := 12) (by omega) (by decide)), sr104_0 s1, nk_k, sk105 s1, nk_dd, sl105 s1, nk_in (show i < 12 by omega) (by decide), nk_ck, nk_k, tilr_K lt.1, nk_dd, nI_clamp (by omega), nI_1, nk_bd]
      rw [st2]
      revert d1 f1 s2 y1 y2 yR
      generalize am_wI (am_wR M1 105 i t) 104 1 (nI (i + 1)) = M2
      intro d1 f1 s2 y1 y2 yR
      have d0 : Dyn M M2 := dyn_trans (dyn_fr fr (by decide)) d1
      have keep : ∀ a, a ≤ 20 → am_I M2 a = am_I M a := fun a ha => txf_I f1 (by omega) (fun hm => by
        have : ∀ z ∈ tyW, 21 ≤ z := by decide
        have := this a hm
        omega)
      obtain ⟨M', r1, r2, r3, r4, r5, r6⟩ := ih (i + 1) g M2 (by omega) (by omega) s2 (by rw [keep 2 (by decide)]; exact e8) (fun j hj => by
        have := lc j hj
        unfold LdC at this ⊢
        rw [keep 5 (by decide), keep 6 (by decide), keep (8 + j) (by omega), keep (15 + j) (by omega)]
        exact this) y1 (fun j hj hji => by
        rw [yR]
        by_cases e : j = i
        · rw [if_pos e]
          subst e
          exact ⟨q, lct_dyn d1 lt⟩
        · rw [if_neg e]
          obtain ⟨q', hq'⟩ := h j hj (by omega)
          exact ⟨q', lct_dyn d0 hq'⟩)
      exact ⟨M', r1, r2, txf_trans f1 r3, r4, fun y hy => (r5 y hy).trans (y2 y hy), r6⟩
    rcases lc i il with l1 | l1
    · obtain ⟨t, q, M1, a1, a2, a3, a4⟩ := dt_c (N := N) hN (show i < 6 by omega) s od l1.1 (lc i il)
      rw [l1.2.1, if_neg z_1, a1, nk_bd]
      exact cont t q M1 a2 a3 a4
    · obtain ⟨t, q, M1, a1, a2, a3, a4⟩ := nt_tc (N := N) hN (show i < 6 by omega) s od l1.1 (lc i il)
      rw [l1.2.1, if_pos rfl, a1, nk_bd]
      exact cont t q M1 a2 a3 a4
def tzW : List Nat := [1, 2, 4, 5, 6, 8, 9, 10, 11, 12, 13, 15, 16, 17, 18, 19, 20, 104, 106, 108] ++ txW
theorem tzW_le : ∀ a ∈ tzW, a ≤ 141 := by decide
/-- the class takes a text -/
theorem tx_c {T : Nat → Int32} {M : am_Mem} {f x : Nat} (hN : 100000 ≤ N) (hf : f ≤ 600) (hx : x ≤ f) (s : Shp M) (tp : ∀ j, j < x → am_I M 3 j = T j) (e7 : am_I M 2 7 = nI f) : ((rdR T x 7 [] [] 0).1 = 0 ∧ ∃ M1, fn11_text N M 1 (nI x) = some (nI (rdR T x 7 [] [] 0).2.2.length, M1) ∧ Shp M1 ∧ TxF tzW M M1 ∧ am_I M1 2 7 = nI 0 ∧ am_I M1 1 11 = nI 0 ∧ (∀ y, ¬ y = 11 → am_I M1 1 y = am_I M 1 y) ∧ am_I M1 104 1 = nI (rdR T x 7 [] [] 0).2.2.length ∧ am_I M1 106 2 = 0 ∧ am_I M1 108 2 = 0 ∧ (rdR T x 7 [] [] 0).2.2.length ≤ 6 ∧ ∀ j (hj : j < (rdR T x 7 [] [] 0).2.2.length), ∃ q, LcT M1 (am_R M1 105 j) ((rdR T x 7 [] [] 0).2.2[j]) q) ∨ (¬ (rdR T x 7 [] [] 0).1 = 0 ∧ ∃ M1, fn11_text N M 1 (nI x) = some (-2 - (rdR T x 7 [] [] 0).1, M1) ∧ Fs rdW M M1 ∧ am_I M1 2 7 = nI 0) := by
  obtain ⟨M1, a1, a2, a3, a4⟩ := rd_ok (N := N) hN hf hx s tp e7
  have s1 := fs_shp a2 s
  have n141 := s.1
  have st : fn11_text N M 1 (nI x) = (if (rdR T x 7 [] [] 0).1 = 0 then am_ck (am_k M1 1 11) (am_ck (am_k M1 (am_R M1 1 8) 9) (am_bd (fn9_clear M1 (am_R M1 1 8)) (fun v8 M9 => am_ck (am_k M9 1 11) (am_ck (am_k M9 (am_R M9 1 9) 9) (am_bd (fn9_clear M9 (am_R M9 1 9)) (fun v13 M14 => am_ck (am_k M14 1 11) (am_ck (am_k M14 (am_R M14 1 10) 9) (am_bd (fn9_clear M14 (am_R M14 1 10)) (fun v18 M19 => am_ck (am_k M19 1 11) (fn11_text_b63 N 7 1 (0 : Int32) (am_wI M19 1 11 (0 : Int32)))))))))))) else some (-2 - (rdR T x 7 [] [] 0).1, M1)) := by
    unfold fn11_text fn11_text_b0
    rw [if_neg (nI_pos (by omega)), nk_k, sk1 s, nk_dd, sr1_0 s, nk_k, sk2 s, nk_dd, e7, if_pos (nI_le hx (by omega)), a1, nk_bd]
  rw [st]
  by_cases z : (rdR T x 7 [] [] 0).1 = 0
  · refine Or.inl ⟨z, ?_⟩
    rw [if_pos z]
    obtain ⟨⟨r1, r2, r3, r4⟩, r5⟩ := a4 z
    have clr : ∀ M o, am_K M o = 9 → fn9_clear M o = some ((), am_wI (am_wI M o 1 0) o 2 0) := fun M o k => by
      unfold fn9_clear fn9_clear_b0
      rw [nk_k, k, nk_dd]
    have s2 : Shp (am_wI (am_wI M1 104 1 0) 104 2 0) := shp_wI (shp_wI s1 _ _ _) _ _ _
    have s3 : Shp (am_wI (am_wI (am_wI (am_wI M1 104 1 0) 104 2 0) 106 1 0) 106 2 0) := shp_wI (shp_wI s2 _ _ _) _ _ _
    have s4 : Shp (am_wI (am_wI (am_wI (am_wI (am_wI (am_wI M1 104 1 0) 104 2 0) 106 1 0) 106 2 0) 108 1 0) 108 2 0) := shp_wI (shp_wI s3 _ _ _) _ _ _
    rw [nk_k, sk1 s1, nk_dd, sr1_8 s1, nk_k, sk104 s1, nk_dd, clr _ _ (sk104 s1), nk_bd, nk_k, sk1 s2, nk_dd, sr1_9 s2, nk_k, sk106 s2, nk_dd, clr _ _ (sk106 s2), nk_bd, nk_k, sk1 s3, nk_dd, sr1_10 s3, nk_k, sk108 s3, nk_dd, clr _ _ (sk108 s3), nk_bd, nk_k, sk1 s4, nk_dd]
    have s5 : Shp (am_wI (am_wI (am_wI (am_wI (am_wI (am_wI (am_wI M1 104 1 0) 104 2 0) 106 1 0) 106 2 0) 108 1 0) 108 2 0) 1 11 0) := shp_wI s4 _ _ _
    have f5 : Fs [1, 104, 106, 108] M1 (am_wI (am_wI (am_wI (am_wI (am_wI (am_wI (am_wI M1 104 1 0) 104 2 0) 106 1 0) 106 2 0) 108 1 0) 108 2 0) 1 11 0) := fs_trans (fs_trans (fs_trans (fs_trans (fs_trans (fs_trans (fs_wI _ _ _ (by decide)) (fs_wI _ _ _ (by decide))) (fs_wI _ _ _ (by decide))) (fs_wI _ _ _ (by decide))) (fs_wI _ _ _ (by decide))) (fs_wI _ _ _ (by decide))) (fs_wI _ _ _ (by decide))
    have y1 : am_I (am_wI (am_wI (am_wI (am_wI (am_wI (am_wI (am_wI M1 104 1 0) 104 2 0) 106 1 0) 106 2 0) 108 1 0) 108 2 0) 1 11 0) 1 11 = 0 := rI_eq _ _ _ _
    have y2 : ∀ y, ¬ y = 11 → am_I (am_wI (am_wI (am_wI (am_wI (am_wI (am_wI (am_wI M1 104 1 0) 104 2 0) 106 1 0) 106 2 0) 108 1 0) 108 2 0) 1 11 0) 1 y = am_I M1 1 y := fun y hy => by rw [rI_ix _ _ _ hy, rI_ne _ _ _ (by decide), rI_ne _ _ _ (by decide), rI_ne _ _ _ (by decide), rI_ne _ _ _ (by decide), rI_ne _ _ _ (by decide), rI_ne _ _ _ (by decide)]
    have y3 : am_I (am_wI (am_wI (am_wI (am_wI (am_wI (am_wI (am_wI M1 104 1 0) 104 2 0) 106 1 0) 106 2 0) 108 1 0) 108 2 0) 1 11 0) 104 1 = nI 0 := by rw [rI_ne _ _ _ (by decide), rI_ne _ _ _ (by decide), rI_ne _ _ _ (by decide), rI_ne _ _ _ (by decide), rI_ne _ _ _ (by decide), rI_ix _ _ _ (by decide), rI_eq]; rfl
    have y4 : am_I (am_wI (am_wI (am_wI (am_wI (am_wI (am_wI (am_wI M1 104 1 0) 104 2 0) 106 1 0) 106 2 0) 108 1 0) 108 2 0) 1 11 0) 106 2 = 0 := by rw [rI_ne _ _ _ (by decide), rI_ne _ _ _ (by decide), rI_ne _ _ _ (by decide), rI_eq]
    have y5 : am_I (am_wI (am_wI (am_wI (am_wI (am_wI (am_wI (am_wI M1 104 1 0) 104 2 0) 106 1 0) 106 2 0) 108 1 0) 108 2 0) 1 11 0) 108 2 = 0 := by rw [rI_ne _ _ _ (by decide), rI_eq]
    revert s5 f5 y1 y2 y3 y4 y5
    generalize am_wI (am_wI (am_wI (am_wI (am_wI (am_wI (am_wI M1 104 1 0) 104 2 0) 106 1 0) 106 2 0) 108 1 0) 108 2 0) 1 11 0 = M2
    intro s5 f5 y1 y2 y3 y4 y5
    have hD : (rdR T x 7 [] [] 0).2.2.length ≤ 6 := by omega
    have n2 : am_n M2 = am_n M := by rw [f5.1, a2.1]
    obtain ⟨M', t1, t2, t3, t4, t5, t6⟩ := tx_l (N := N) (D := (rdR T x 7 [] [] 0).2.2) hN hD (rdR_good (T := T) (by omega) 7 [] [] 0 (Nat.zero_le x) (fun d hd => absurd hd List.not_mem_nil)) (rdR T x 7 [] [] 0).2.2.length 0 7 M2 (by omega) (by omega) s5 (by rw [fs_I f5 (by decide), r1, r2]) (fun j hj => by
      have := r4 j hj
      have k5 : ∀ a, 1 < a → a < 104 → am_I M2 a = am_I M1 a := fun a h1 h2 => fs_I f5 (by simp; omega)
      unfold LdC at this ⊢
      rw [k5 5 (by decide) (by decide), k5 6 (by decide) (by decide), k5 (8 + j) (by omega) (by omega), k5 (15 + j) (by omega) (by omega)]
      exact this) y3 (fun j hj h0 => absurd h0 (Nat.not_lt_zero j))
    have ff : TxF tzW M M' := txf_trans (txf_fr (fs_fr a2) (by decide)) (txf_trans (txf_fr (fs_fr f5) (by decide)) (by
      refine ⟨t3.1, fun a ha => ?_⟩
      obtain ⟨g1, g2, g3, g4⟩ := t3.2 a ha
      exact ⟨g1, g2, g3, fun hw => g4 (fun hy => hw ((show ∀ z ∈ tyW, z ∈ tzW by decide) a hy))⟩))
    refine ⟨M', t1, t2, ff, ?_, ?_, fun y hy => ?_, t4, ?_, ?_, hD, t6⟩
    · rw [txf_I t3 (by omega) (by decide), fs_I f5 (by decide)]; exact a3
    · rw [txf_I t3 (by omega) (by decide)]; exact y1
    · rw [txf_I t3 (by omega) (by decide), y2 y hy, fs_I a2 (by decide)]
    · rw [txf_I t3 (by omega) (by decide)]; exact y4
    · rw [txf_I t3 (by omega) (by decide)]; exact y5
  · exact Or.inr ⟨z, by rw [if_neg z]; exact ⟨M1, rfl, a2, a3⟩⟩
end
