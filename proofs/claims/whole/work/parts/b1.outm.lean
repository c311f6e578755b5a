theorem i42 (t c : Nat) : (42 : Int32) * nI t + nI c = nI (42 * t + c) := by
  rw [show (42 : Int32) * nI t = nI (42 * t) from (Int32.ofNat_mul 42 _).symm, lw_add]
theorem nI_min {b e : Nat} (h : b ≤ e) : nI e - nI b = nI (e - b) := by
  have : nI e = nI b + nI (e - b) := by rw [lw_add, show b + (e - b) = e by omega]
  rw [this, Int32.add_comm, Int32.add_sub_cancel]
theorem ap_all {P : Nat × Nat → Prop} {l : Ou} {x : Nat × Nat} (h : ∀ k, k < l.length → P (l.getD k (0, 0))) (hx : P x) : ∀ k, k < (apO l x).length → P ((apO l x).getD k (0, 0)) := by
  unfold apO
  by_cases q : 0 < l.length ∧ dpO l (l.length - 1) = x.2
  · rw [if_pos q]; exact h
  · rw [if_neg q]
    intro k hk
    rw [len_1] at hk
    by_cases e : k < l.length
    · rw [gd_l e]; exact h k e
    · rw [show k = l.length by omega, gd_r (Nat.le_refl _), Nat.sub_self]; exact hx
theorem ly_all {P : Nat × Nat → Prop} {O : Ou} {W s : Nat} (h : ∀ k, k < O.length → P (O.getD k (0, 0))) (h1 : P (bgO O (ntO O), dpO O (ntO O) + s)) (h2 : P (bgO O (ntO O) + s, dpO O (ntO O))) : ∀ k, k ≤ O.length → ∀ j, j < (lyP O W s k).length → P ((lyP O W s k).getD j (0, 0))
  | 0, _ => fun j hj => absurd hj (Nat.not_lt_zero j)
  | k + 1, hk => by
    have ih := ly_all (W := W) h h1 h2 k (by omega)
    show ∀ j, j < ((inO O W s k).foldl apO (lyP O W s k)).length → P (((inO O W s k).foldl apO (lyP O W s k)).getD j (0, 0))
    unfold inO
    by_cases q : k = ntO O
    · rw [if_pos q]
      rw [← q] at h1 h2
      by_cases c : s < enO O W k - bgO O k
      · rw [if_pos c]; exact ap_all (ap_all ih h1) h2
      · rw [if_neg c]; exact ap_all ih h1
    · rw [if_neg q]
      exact ap_all ih (h k (by omega))
/-- an outline of the reference -/
def OuM (M : am_Mem) (lv : Nat) (O : Ou) : Prop := am_I M 130 lv = nI O.length ∧ ∀ k, k < O.length → am_I M 131 (42 * lv + k) = nI (bgO O k) ∧ am_I M 132 (42 * lv + k) = nI (dpO O k)
def DpO (O : Ou) (B : Nat) : Prop := ∀ k, k < O.length → (O.getD k (0, 0)).2 ≤ B
/-- what stays of the levels before -/
def LvB (M M' : am_Mem) (lv : Nat) : Prop := Fs [130, 131, 132] M M' ∧ (∀ u, u < lv → am_I M' 130 u = am_I M 130 u) ∧ ∀ j, j < 42 * lv → am_I M' 131 j = am_I M 131 j ∧ am_I M' 132 j = am_I M 132 j
theorem lvb_refl (M : am_Mem) (lv : Nat) : LvB M M lv := ⟨fs_refl _ _, fun _ _ => rfl, fun _ _ => ⟨rfl, rfl⟩⟩
theorem lvb_trans {M M1 M2 : am_Mem} {lv : Nat} (h : LvB M M1 lv) (g : LvB M1 M2 lv) : LvB M M2 lv :=
  ⟨fs_trans h.1 g.1, fun u hu => (g.2.1 u hu).trans (h.2.1 u hu), fun j hj => ⟨(g.2.2 j hj).1.trans (h.2.2 j hj).1, (g.2.2 j hj).2.trans (h.2.2 j hj).2⟩⟩
theorem oum_lvb {M M' : am_Mem} {lv l2 : Nat} {O : Ou} (h : LvB M M' lv) (hl : l2 < lv) (hO : O.length ≤ 42) (o : OuM M l2 O) : OuM M' l2 O := by
  refine ⟨by rw [h.2.1 l2 hl]; exact o.1, fun k hk => ?_⟩
  have := h.2.2 (42 * l2 + k) (by omega)
  rw [this.1, this.2]
  exact o.2 k hk
section
variable {N : Nat} {M : am_Mem} {lv W : Nat} {O : Ou}
theorem na_m (hN : 100000 ≤ N) (s : Shp M) (hl : lv < 42) (hO : O.length ≤ 42) (ho : OkO O W) (o : OuM M lv O) (hd : ∀ k, k < O.length → dpO O k < 2147483648) : fn12_notchAt N M 110 (nI lv) = some (nI (ntO O), M) := by
  have go : ∀ m k fuel, k + m = O.length → 0 < k → m < fuel → fn12_notchAt_b4 N fuel 110 (nI lv) (nI (ntF O k)) (nI k) M = some (nI (ntO O), M) := by
    intro m
    induction m with
    | zero =>
      intro k fuel hk h0 hf
      obtain ⟨g, rfl⟩ : ∃ g, fuel = g + 1 := ⟨fuel - 1, by omega⟩
      show fn12_notchAt_b4B N (fn12_notchAt_b4 N g) 110 (nI lv) (nI (ntF O k)) (nI k) M = _
      unfold fn12_notchAt_b4B
      rw [nk_k, sk110 s, nk_dd, sr110_32 s, nk_k, sk130 s, nk_dd, sl130 s, nk_in hl (by decide), nk_ck, nI_clamp (by omega), o.1, if_pos (nI_le (by omega) (by omega)), show k = O.length by omega]
      rfl
    | succ m ih =>
      intro k fuel hk h0 hf
      obtain ⟨g, rfl⟩ : ∃ g, fuel = g + 1 := ⟨fuel - 1, by omega⟩
      have nk := (ntF_ok O k h0).1
      show fn12_notchAt_b4B N (fn12_notchAt_b4 N g) 110 (nI lv) (nI (ntF O k)) (nI k) M = _
      unfold fn12_notchAt_b4B fn12_notchAt_b41
      rw [nk_k, sk110 s, nk_dd, sr110_32 s, nk_k, sk130 s, nk_dd, sl130 s, nk_in hl (by decide), nk_ck, nI_clamp (by omega), o.1, if_neg (nI_ge (by omega) (by omega)), sr110_34 s, nk_k, sk132 s, nk_dd, sl132 s, i42, i42, nk_in (show 42 * lv + k < 1764 by omega) (by decide), nk_ck, nk_in (show 42 * lv + ntF O k < 1764 by omega) (by decide), nk_ck, nI_clamp (show 42 * lv + k < 2147483648 by omega), nI_clamp (show 42 * lv + ntF O k < 2147483648 by omega), (o.2 k (by omega)).2, (o.2 (ntF O k) (by omega)).2, nI_1]
      have ih' := ih (k + 1) g (by omega) (by omega) (by omega)
      have e : ntF O (k + 1) = if dpO O k < dpO O (ntF O k) then k else ntF O k := rfl
      rw [e] at ih'
      have d1 := hd k (by omega)
      have d2 := hd (ntF O k) (by omega)
      by_cases q : dpO O k < dpO O (ntF O k)
      · rw [if_pos q] at ih'
        rw [if_neg (nI_ge q (by omega))]
        exact ih'
      · rw [if_neg q] at ih'
        rw [if_pos (nI_le (by omega) (by omega))]
        exact ih'
  have e : ntF O 1 = 0 := by
    show (if dpO O 0 < dpO O 0 then 0 else 0) = 0
    rw [if_neg (by omega)]
  have := go (O.length - 1) 1 N (by have := ho.1; omega) (by decide) (by omega)
  rw [e] at this
  exact this
theorem wo_m {k : Nat} (s : Shp M) (hl : lv < 42) (hO : O.length ≤ 42) (ho : OkO O W) (hW : W < 2147483648) (o : OuM M lv O) (w : am_I M 110 35 = nI W) (hk : k < O.length) : fn12_widthOf M 110 (nI lv) (nI k) = some (nI (enO O W k - bgO O k), M) := by
  have e : fn12_endOf M 110 (nI lv) (nI k) = some (nI (enO O W k), M) := by
    unfold fn12_endOf fn12_endOf_b0 fn12_endOf_b32 enO
    rw [nk_k, sk110 s, nk_dd, sr110_32 s, nk_k, sk130 s, nk_dd, sl130 s, nk_in hl (by decide), nk_ck, nI_clamp (by omega), o.1, nI_1]
    by_cases q : k + 1 < O.length
    · rw [if_pos q, if_neg (nI_ge (by omega) (by omega)), sr110_33 s, nk_k, sk131 s, nk_dd, sl131 s, i42, nI_1, nk_in (show 42 * lv + k + 1 < 1764 by omega) (by decide), nk_ck, nI_clamp (by omega), Nat.add_assoc, (o.2 (k + 1) q).1]
    · rw [if_neg q, if_pos (nI_le (by omega) (by omega)), w]
  unfold fn12_widthOf fn12_widthOf_b0
  rw [nk_k, sk110 s, nk_dd, e, nk_bd, nk_k, sk110 s, nk_dd, sr110_33 s, nk_k, sk131 s, nk_dd, sl131 s, i42, nk_in (show 42 * lv + k < 1764 by omega) (by decide), nk_ck, nI_clamp (by omega), (o.2 k hk).1, nI_min (Nat.le_of_lt (bg_en ho hk).1)]
/-- a piece put behind, the reference -/
theorem ap_m {l : Ou} {x : Nat × Nat} (s : Shp M) (hl : lv < 42) (hO : l.length < 42) (o : OuM M lv l) (hd : ∀ k, k < l.length → (l.getD k (0, 0)).2 < 2147483648) (hx : x.2 < 2147483648) : ∃ M', fn12_appends M 110 (nI lv) (nI x.1) (nI x.2) = some ((), M') ∧ LvB M M' lv ∧ OuM M' lv (apO l x) := by
  have put : ∃ M', fn12_appends_b36 110 (nI lv) (nI x.1) (nI x.2) (nI (42 * lv + l.length)) M = some ((), M') ∧ LvB M M' lv ∧ OuM M' lv (l ++ [x]) := by
    have c1 : (nI (42 * lv + l.length)).toNatClampNeg = 42 * lv + l.length := nI_clamp (by omega)
    have c2 : (nI lv).toNatClampNeg = lv := nI_clamp (by omega)
    have j1 : am_in (nI (42 * lv + l.length)) 1764 = true := nk_in (by omega) (by decide)
    have j2 : am_in (nI lv) 42 = true := nk_in hl (by decide)
    have n1 : ¬ 130 = 132 := by decide
    have n2 : ¬ 130 = 131 := by decide
    refine ⟨am_wI (am_wI (am_wI M 131 (42 * lv + l.length) (nI x.1)) 132 (42 * lv + l.length) (nI x.2)) 130 lv (nI (l.length + 1)), ?_, ⟨fs_trans (fs_trans (fs_wI _ _ _ (by decide)) (fs_wI _ _ _ (by decide))) (fs_wI _ _ _ (by decide)), fun u hu => ?_, fun j hj => ⟨?_, ?_⟩⟩, ?_, fun k hk => ?_⟩
    · unfold fn12_appends_b36
      simp only [nk_k, sk110 s, eq_self, decide_true, nk_ck, sr110_33 s, sk131 s, sl131 s, j1, sr110_34 s, sk132 s, sl132 s, sr110_32 s, sk130 s, sl130 s, j2, c1, c2, rI_ne _ _ _ n1, rI_ne _ _ _ n2, o.1, nI_1]
    · rw [rI_ix _ _ _ (by omega), rI_ne _ _ _ (by decide), rI_ne _ _ _ (by decide)]
    · rw [rI_ne _ _ _ (by decide), rI_ne _ _ _ (by decide), rI_ix _ _ _ (by omega)]
    · rw [rI_ne _ _ _ (by decide), rI_ix _ _ _ (by omega), rI_ne _ _ _ (by decide)]
    · rw [rI_eq, len_1]
    · rw [len_1] at hk
      rw [rI_ne (b := 131) _ _ _ (by decide), rI_ne (b := 131) _ _ _ (by decide), rI_ne (b := 132) _ _ _ (by decide)]
      by_cases e : k < l.length
      · rw [rI_ix _ _ _ (by omega), rI_ix _ _ _ (by omega), rI_ne _ _ _ (by decide), bg_l e, dp_l e]
        exact o.2 k e
      · rw [show k = l.length by omega, rI_eq, rI_eq, bg_n, dp_n]
        exact ⟨rfl, rfl⟩
  have st : fn12_appends M 110 (nI lv) (nI x.1) (nI x.2) = fn12_appends_b13 110 (nI lv) (nI x.1) (nI x.2) (nI (42 * lv + l.length)) M := by
    unfold fn12_appends fn12_appends_b0
    rw [nk_k, sk110 s, nk_dd, sr110_32 s, nk_k, sk130 s, nk_dd, sl130 s, nk_in hl (by decide), nk_ck, nI_clamp (by omega), o.1, i42]
  rw [st]
  unfold fn12_appends_b13
  rw [nk_k, sk110 s, nk_dd, sr110_32 s, nk_k, sk130 s, nk_dd, sl130 s, nk_in hl (by decide), nk_ck, nI_clamp (by omega), o.1]
  unfold apO
  by_cases z : l.length = 0
  · rw [if_pos (show nI l.length ≤ (0 : Int32) by rw [z]; decide), if_neg (show ¬ (0 < l.length ∧ dpO l (l.length - 1) = x.2) from fun c => by have := c.1; omega)]
    exact put
  · rw [if_neg (show ¬ nI l.length ≤ (0 : Int32) from nI_ge (a := 0) (by omega) (by omega)), sr110_34 s, nk_k, sk132 s, nk_dd, sl132 s]
    have em : nI (42 * lv + l.length) - 1 = nI (42 * lv + (l.length - 1)) := by
      rw [show 42 * lv + l.length = 42 * lv + (l.length - 1) + 1 by omega, nI_s1]
    rw [em, nk_in (show 42 * lv + (l.length - 1) < 1764 by omega) (by decide), nk_ck, nI_clamp (by omega), (o.2 (l.length - 1) (by omega)).2]
    have hd' : dpO l (l.length - 1) < 2147483648 := hd (l.length - 1) (by omega)
    by_cases q : dpO l (l.length - 1) = x.2
    · rw [if_pos (congrArg nI q), if_pos ⟨by omega, q⟩]
      exact ⟨M, rfl, lvb_refl M lv, o⟩
    · rw [if_neg (fun e => q (nI_inj hd' hx e)), if_neg (fun c => q c.2)]
      exact put
end
section
variable {N : Nat} {lv W sz B : Nat} {O : Ou}
theorem lo_loop (hN : 100000 ≤ N) (hl : lv + 1 < 42) (hO : O.length ≤ 40) (ho : OkO O W) (hW : W < 2147483648) (hs : 0 < sz) (hw : sz ≤ enO O W (ntO O) - bgO O (ntO O)) (hd : DpO O B) (hB : dpO O (ntO O) + sz ≤ B) (hB2 : B < 2147483648) : ∀ m k fuel M, k + m = O.length → m < fuel → Shp M → am_I M 110 35 = nI W → OuM M lv O → OuM M (lv + 1) (lyP O W sz k) → ∃ M', fn12_laysOn_b18 N fuel 110 (nI lv) (nI sz) (nI (ntO O)) (nI k) M = some ((), M') ∧ LvB M M' (lv + 1) ∧ OuM M' (lv + 1) (lyO O W sz) := by
  intro m
  have nl := nt_lt ho
  have f1 := bg_en ho nl
  have pb := ly_all (W := W) (P := fun x => x.2 ≤ B) (s := sz) hd hB (show dpO O (ntO O) ≤ B by omega)
  induction m with
  | zero =>
    intro k fuel M hk hf s w o o1
    obtain ⟨g, rfl⟩ : ∃ g, fuel = g + 1 := ⟨fuel - 1, by omega⟩
    refine ⟨M, ?_, lvb_refl _ _, ?_⟩
    · show fn12_laysOn_b18B N (fn12_laysOn_b18 N g) 110 (nI lv) (nI sz) (nI (ntO O)) (nI k) M = _
      unfold fn12_laysOn_b18B
      rw [nk_k, sk110 s, nk_dd, sr110_32 s, nk_k, sk130 s, nk_dd, sl130 s, nk_in (show lv < 42 by omega) (by decide), nk_ck, nI_clamp (by omega), o.1, if_pos (nI_le (by omega) (by omega))]
    · unfold lyO
      rw [← show k = O.length by omega]; exact o1
  | succ m ih =>
    intro k fuel M hk hf s w o o1
    obtain ⟨g, rfl⟩ : ∃ g, fuel = g + 1 := ⟨fuel - 1, by omega⟩
    have kl : k < O.length := by omega
    have ek := bg_en ho kl
    obtain ⟨y1, y2, y3, y4, _⟩ := lyP_ok ho hs hw k (by omega)
    have st : fn12_laysOn_b18 N (g + 1) 110 (nI lv) (nI sz) (nI (ntO O)) (nI k) M = fn12_laysOn_b38 N (fn12_laysOn_b18 N g) 110 (nI lv) (nI sz) (nI (ntO O)) (nI k) (nI (42 * lv + k)) M := by
      show fn12_laysOn_b18B N (fn12_laysOn_b18 N g) 110 (nI lv) (nI sz) (nI (ntO O)) (nI k) M = _
      unfold fn12_laysOn_b18B
      rw [nk_k, sk110 s, nk_dd, sr110_32 s, nk_k, sk130 s, nk_dd, sl130 s, nk_in (show lv < 42 by omega) (by decide), nk_ck, nI_clamp (by omega), o.1, if_neg (nI_ge (by omega) (by omega)), i42]
    rw [st]
    have pk := pb k (by omega)
    have dk := hd k kl
    have ja : am_in (nI (42 * lv + k)) 1764 = true := nk_in (by omega) (by decide)
    have jc : (nI (42 * lv + k)).toNatClampNeg = 42 * lv + k := nI_clamp (by omega)
    unfold fn12_laysOn_b38 fn12_laysOn_b125
    by_cases q : k = ntO O
    · have wo := fun (M' : am_Mem) (s' : Shp M') (o' : OuM M' lv O) (w' : am_I M' 110 35 = nI W) => wo_m (k := k) s' (show lv < 42 by omega) (by omega) ho hW o' w' kl
      obtain ⟨M1, a1, a2, a3⟩ := ap_m (x := (bgO O k, dpO O k + sz)) s hl (show (lyP O W sz k).length < 42 by omega) o1 (fun j hj => by have := pk j hj; omega) (by show dpO O k + sz < 2147483648; rw [q]; omega)
      have s1 := fs_shp a2.1 s
      have o1' := oum_lvb a2 (Nat.lt_succ_self lv) (by omega) o
      have w1 : am_I M1 110 35 = nI W := by rw [fs_I a2.1 (by decide)]; exact w
      have a1' : fn12_appends M 110 (nI (lv + 1)) (nI (bgO O k)) (nI (dpO O k + sz)) = some ((), M1) := a1
      rw [if_pos (congrArg nI q), nk_k, sk110 s, nk_dd, sr110_33 s, nk_k, sk131 s, nk_dd, sl131 s, ja, nk_ck, sr110_34 s, nk_k, sk132 s, nk_dd, sl132 s, ja, nk_ck, jc, (o.2 k kl).1, (o.2 k kl).2, nI_1, lw_add, a1', nk_bd, nk_k, sk110 s1, nk_dd, wo M1 s1 o1' w1, nk_bd]
      by_cases c : sz < enO O W k - bgO O k
      · have ly : lyP O W sz (k + 1) = apO (apO (lyP O W sz k) (bgO O k, dpO O k + sz)) (bgO O k + sz, dpO O k) := by
          show (inO O W sz k).foldl apO (lyP O W sz k) = _
          unfold inO
          rw [if_pos q, if_pos c]
          rfl
        have lm : (apO (lyP O W sz k) (bgO O k, dpO O k + sz)).length ≤ (lyP O W sz k).length + 1 := by
          unfold apO
          by_cases z : 0 < (lyP O W sz k).length ∧ dpO (lyP O W sz k) ((lyP O W sz k).length - 1) = (bgO O k, dpO O k + sz).2
          · rw [if_pos z]; omega
          · rw [if_neg z, len_1]; exact Nat.le_refl _
        obtain ⟨M2, b1, b2, b3⟩ := ap_m (x := (bgO O k + sz, dpO O k)) s1 hl (show (apO (lyP O W sz k) (bgO O k, dpO O k + sz)).length < 42 by omega) a3 (fun j hj => by
          have := ap_all (P := fun x => x.2 ≤ B) pk (show (bgO O k, dpO O k + sz).2 ≤ B by show dpO O k + sz ≤ B; rw [q]; exact hB) j hj
          omega) (by show dpO O k < 2147483648; have : dpO O k ≤ B := dk; omega)
        have b1' : fn12_appends M1 110 (nI (lv + 1)) (nI (bgO O k + sz)) (nI (dpO O k)) = some ((), M2) := b1
        rw [if_neg (nI_ge c (by omega)), nk_k, sk110 s1, nk_dd, sr110_33 s1, nk_k, sk131 s1, nk_dd, sl131 s1, ja, nk_ck, sr110_34 s1, nk_k, sk132 s1, nk_dd, sl132 s1, ja, nk_ck, (o1'.2 k kl).1, (o1'.2 k kl).2, lw_add, b1', nk_bd]
        have b12 := lvb_trans a2 b2
        obtain ⟨M3, c1, c2, c3⟩ := ih (k + 1) g M2 (by omega) (by omega) (fs_shp b12.1 s) (by rw [fs_I b12.1 (by decide)]; exact w) (oum_lvb b12 (Nat.lt_succ_self lv) (by omega) o) (by rw [ly]; exact b3)
        exact ⟨M3, by rw [nI_1]; exact c1, lvb_trans b12 c2, c3⟩
      · have ly : lyP O W sz (k + 1) = apO (lyP O W sz k) (bgO O k, dpO O k + sz) := by
          show (inO O W sz k).foldl apO (lyP O W sz k) = _
          unfold inO
          rw [if_pos q, if_neg c]
          rfl
        have zl : sz < 2147483648 := by omega
        rw [if_pos (nI_le (by omega) zl)]
        obtain ⟨M3, c1, c2, c3⟩ := ih (k + 1) g M1 (by omega) (by omega) s1 w1 o1' (by rw [ly]; exact a3)
        exact ⟨M3, by rw [nI_1]; exact c1, lvb_trans a2 c2, c3⟩
    · have ly : lyP O W sz (k + 1) = apO (lyP O W sz k) (bgO O k, dpO O k) := by
        show (inO O W sz k).foldl apO (lyP O W sz k) = _
        unfold inO
        rw [if_neg q]
        rfl
      obtain ⟨M1, a1, a2, a3⟩ := ap_m (x := (bgO O k, dpO O k)) s hl (show (lyP O W sz k).length < 42 by omega) o1 (fun j hj => by have := pk j hj; omega) (by show dpO O k < 2147483648; have : dpO O k ≤ B := dk; omega)
      have a1' : fn12_appends M 110 (nI (lv + 1)) (nI (bgO O k)) (nI (dpO O k)) = some ((), M1) := a1
      rw [if_neg (fun e => q (nI_inj (by omega) (by omega) e)), nk_k, sk110 s, nk_dd, sr110_33 s, nk_k, sk131 s, nk_dd, sl131 s, ja, nk_ck, sr110_34 s, nk_k, sk132 s, nk_dd, sl132 s, ja, nk_ck, jc, (o.2 k kl).1, (o.2 k kl).2, nI_1, a1', nk_bd]
      obtain ⟨M3, c1, c2, c3⟩ := ih (k + 1) g M1 (by omega) (by omega) (fs_shp a2.1 s) (by rw [fs_I a2.1 (by decide)]; exact w) (oum_lvb a2 (Nat.lt_succ_self lv) (by omega) o) (by rw [ly]; exact a3)
      exact ⟨M3, by rw [nI_1]; exact c1, lvb_trans a2 c2, c3⟩
/-- a square laid, the reference -/
theorem lo_m {M : am_Mem} (hN : 100000 ≤ N) (hl : lv + 1 < 42) (hO : O.length ≤ 40) (ho : OkO O W) (hW : W < 2147483648) (hs : 0 < sz) (hw : sz ≤ enO O W (ntO O) - bgO O (ntO O)) (hd : DpO O B) (hB : dpO O (ntO O) + sz ≤ B) (hB2 : B < 2147483648) (s : Shp M) (w : am_I M 110 35 = nI W) (o : OuM M lv O) : ∃ M', fn12_laysOn N M 110 (nI lv) (nI sz) = some ((), M') ∧ LvB M M' (lv + 1) ∧ OuM M' (lv + 1) (lyO O W sz) := by
  have na := na_m (N := N) hN s (show lv < 42 by omega) (by omega) ho o (fun k hk => by have := hd k hk; show (O.getD k (0, 0)).2 < 2147483648; omega)
  have r1 : LvB M (am_wI M 130 (lv + 1) 0) (lv + 1) := ⟨fs_wI _ _ _ (by decide), fun u hu => by rw [rI_ix _ _ _ (by omega)], fun j hj => ⟨by rw [rI_ne _ _ _ (by decide)], by rw [rI_ne _ _ _ (by decide)]⟩⟩
  have o1 : OuM (am_wI M 130 (lv + 1) 0) (lv + 1) [] := ⟨rI_eq _ _ _ _, fun k hk => absurd hk (Nat.not_lt_zero k)⟩
  unfold fn12_laysOn fn12_laysOn_b0
  rw [nk_k, sk110 s, nk_dd, na, nk_bd, nk_k, sk110 s, nk_dd, sr110_32 s, nk_k, sk130 s, nk_dd, sl130 s, nI_1, nk_in hl (by decide), nk_ck, nI_clamp (by omega)]
  obtain ⟨M3, c1, c2, c3⟩ := lo_loop (N := N) hN hl hO ho hW hs hw hd hB hB2 O.length 0 N (am_wI M 130 (lv + 1) 0) (by omega) (by omega) (fs_shp r1.1 s) (by rw [fs_I r1.1 (by decide)]; exact w) (oum_lvb r1 (Nat.lt_succ_self lv) (by omega) o) o1
  exact ⟨M3, c1, lvb_trans r1 c2, c3⟩
end
