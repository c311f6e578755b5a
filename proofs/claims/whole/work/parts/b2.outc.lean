/-- an outline of the class -/
def OuT (M : am_Mem) (o cap : Nat) : Prop := am_K M o = 6 ∧ am_R M o 0 = o + 1 ∧ am_R M o 1 = o + 2 ∧ am_K M (o + 1) = 14 ∧ am_K M (o + 2) = 14 ∧ am_L M (o + 1) = cap ∧ am_L M (o + 2) = cap
theorem out_fs {Q : List Nat} {M M' : am_Mem} {o cap : Nat} (f : Fs Q M M') (h : OuT M o cap) : OuT M' o cap := by
  unfold OuT at h ⊢
  rw [f.2.1, f.2.2.1, f.2.2.2.1]
  exact h
def OuC (M : am_Mem) (o : Nat) (O : Ou) (W : Nat) : Prop := am_I M o 2 = nI (ntO O) ∧ am_I M o 3 = nI O.length ∧ ∀ k, k < O.length → am_I M (o + 1) k = nI (enO O W k) ∧ am_I M (o + 2) k = nI (dpO O k)
theorem nt_uni {O : Ou} {i : Nat} (hi : i < O.length) (h1 : ∀ j, j < O.length → dpO O i ≤ dpO O j) (h2 : ∀ j, j < i → dpO O i < dpO O j) : ntO O = i := by
  obtain ⟨a, b, c⟩ := ntF_ok O O.length (by omega)
  show ntF O O.length = i
  have b' := b i hi
  have h1' := h1 _ a
  by_cases q : ntF O O.length < i
  · have := h2 _ q; omega
  · by_cases r : i < ntF O O.length
    · have := c i r; omega
    · omega
section
variable {M : am_Mem} {o cap W : Nat} {O : Ou}
theorem oc_left (t : OuT M o cap) (hc : cap ≤ 25) (hl : O.length ≤ cap) (ho : OkO O W) (c : OuC M o O W) : fn6_notchLeft M o = some (nI (bgO O (ntO O)), M) := by
  obtain ⟨t1, t2, t3, t4, t5, t6, t7⟩ := t
  have nl := nt_lt ho
  unfold fn6_notchLeft fn6_notchLeft_b0 fn6_notchLeft_b22
  rw [nk_k, t1, nk_dd, c.1]
  by_cases z : ntO O = 0
  · rw [if_pos (show nI (ntO O) = (0 : Int32) by rw [z]; rfl), z, ho.2.1]
    rfl
  · obtain ⟨q, e⟩ : ∃ q, ntO O = q + 1 := ⟨ntO O - 1, by omega⟩
    rw [if_neg (show ¬ nI (ntO O) = (0 : Int32) from fun e => z (nI_inj (b := 0) (by omega) (by decide) e)), t2, nk_k, t4, nk_dd, t6, e, nI_s1, nk_in (show q < cap by omega) (by omega), nk_ck, nI_clamp (by omega), (c.2.2 q (by omega)).1]
    unfold enO
    rw [if_pos (by omega)]
theorem oc_width (t : OuT M o cap) (hc : cap ≤ 25) (hl : O.length ≤ cap) (ho : OkO O W) (c : OuC M o O W) : fn6_notchWidth M o = some (nI (enO O W (ntO O) - bgO O (ntO O)), M) := by
  have nl := nt_lt ho
  have lf := oc_left t hc hl ho c
  obtain ⟨t1, t2, t3, t4, t5, t6, t7⟩ := t
  unfold fn6_notchWidth fn6_notchWidth_b0
  rw [nk_k, t1, nk_dd, t2, nk_k, t4, nk_dd, t6, c.1, nk_in (show ntO O < cap by omega) (by omega), nk_ck, lf, nk_bd, nI_clamp (by omega), (c.2.2 _ nl).1, nI_min (Nat.le_of_lt (bg_en ho nl).1)]
theorem oc_depth (t : OuT M o cap) (hc : cap ≤ 25) (hl : O.length ≤ cap) (ho : OkO O W) (c : OuC M o O W) : fn6_notchDepth M o = some (nI (dpO O (ntO O)), M) := by
  have nl := nt_lt ho
  obtain ⟨t1, t2, t3, t4, t5, t6, t7⟩ := t
  unfold fn6_notchDepth fn6_notchDepth_b0
  rw [nk_k, t1, nk_dd, t3, nk_k, t5, nk_dd, t7, c.1, nk_in (show ntO O < cap by omega) (by omega), nk_ck, nI_clamp (by omega), (c.2.2 _ nl).2]
theorem ok_open {W : Nat} (hW : 0 < W) : OkO [(0, 0)] W := by
  refine ⟨by decide, rfl, fun k hk => ?_, fun k hk => ?_, fun k hk => ?_⟩
  · have : k + 1 < 1 := hk; omega
  · have : k < 1 := hk
    rw [show k = 0 by omega]; exact hW
  · have : k + 1 < 1 := hk; omega
theorem oc_open (t : OuT M o cap) (hc : 0 < cap) (hc2 : cap ≤ 25) : ∃ M', fn6_open M o (nI W) = some ((), M') ∧ Fs [o, o + 1, o + 2] M M' ∧ OuC M' o [(0, 0)] W := by
  obtain ⟨t1, t2, t3, t4, t5, t6, t7⟩ := t
  have i0 : am_in (0 : Int32) cap = true := nk_in (n := 0) hc (by omega)
  refine ⟨am_wI (am_wI (am_wI (am_wI M (o + 1) 0 (nI W)) (o + 2) 0 0) o 3 1) o 2 0, ?_, fs_trans (fs_trans (fs_trans (fs_wI _ _ _ (by simp)) (fs_wI _ _ _ (by simp))) (fs_wI _ _ _ (by simp))) (fs_wI _ _ _ (by simp)), ?_, ?_, fun k hk => ?_⟩
  · unfold fn6_open fn6_open_b0
    simp only [nk_k, t1, eq_self, decide_true, nk_ck, t2, t3, t4, t5, t6, t7, i0, show (0 : Int32).toNatClampNeg = 0 from rfl]
  · rw [rI_eq]; rfl
  · rw [rI_ix _ _ _ (by decide), rI_eq]; rfl
  · have : k < 1 := hk
    rw [show k = 0 by omega, rI_ne _ _ _ (show ¬ o + 1 = o by omega), rI_ne _ _ _ (show ¬ o + 1 = o by omega), rI_ne _ _ _ (show ¬ o + 1 = o + 2 by omega), rI_eq, rI_ne _ _ _ (show ¬ o + 2 = o by omega), rI_ne _ _ _ (show ¬ o + 2 = o by omega), rI_eq]
    exact ⟨rfl, rfl⟩
end
section
variable {O : Ou} {W s : Nat}
/-- the pieces before the notch stay -/
theorem ly_lo (h : OkO O W) : ∀ k, k ≤ ntO O → (lyP O W s k).length = k ∧ ∀ j, j < k → (lyP O W s k).getD j (0, 0) = O.getD j (0, 0)
  | 0, _ => ⟨rfl, fun j hj => absurd hj (Nat.not_lt_zero j)⟩
  | k + 1, hk => by
    obtain ⟨a, b⟩ := ly_lo h k (by omega)
    have nl := nt_lt h
    have e : lyP O W s (k + 1) = lyP O W s k ++ [(bgO O k, dpO O k)] := by
      show (inO O W s k).foldl apO (lyP O W s k) = _
      unfold inO
      rw [if_neg (by omega)]
      show apO (lyP O W s k) (bgO O k, dpO O k) = _
      unfold apO
      rw [if_neg]
      rintro ⟨c1, c2⟩
      rw [a] at c1 c2
      have d := h.2.2.2.2 (k - 1) (by omega)
      rw [show k - 1 + 1 = k by omega] at d
      refine d ?_
      rw [← show dpO (lyP O W s k) (k - 1) = dpO O (k - 1) by unfold dpO; rw [b (k - 1) (by omega)]]
      exact c2
    rw [e]
    refine ⟨by rw [len_1, a], fun j hj => ?_⟩
    by_cases q : j < k
    · rw [gd_l (by omega)]; exact b j q
    · rw [show j = k by omega, gd_r (by omega), a, Nat.sub_self]
      rfl
theorem ap_new {l : Ou} {x : Nat × Nat} (h : 0 < l.length → ¬ dpO l (l.length - 1) = x.2) : apO l x = l ++ [x] := by
  unfold apO
  rw [if_neg (fun c => h c.1 c.2)]
/-- a square beside what is left of the notch, its piece one with the one before -/
theorem ly_s1 (h : OkO O W) (hs : 0 < s) (c : s < enO O W (ntO O) - bgO O (ntO O)) (n0 : 0 < ntO O) (e0 : dpO O (ntO O - 1) = dpO O (ntO O) + s) : ∀ d, ntO O + 1 + d ≤ O.length → (lyP O W s (ntO O + 1 + d)).length = ntO O + 1 + d ∧ ∀ j, j < ntO O + 1 + d → (lyP O W s (ntO O + 1 + d)).getD j (0, 0) = if j = ntO O then (bgO O (ntO O) + s, dpO O (ntO O)) else O.getD j (0, 0)
  | 0, hd => by
    obtain ⟨a, b⟩ := ly_lo (s := s) h (ntO O) (Nat.le_refl _)
    have l1 : dpO (lyP O W s (ntO O)) ((lyP O W s (ntO O)).length - 1) = dpO O (ntO O) + s := by
      rw [a, ← e0]
      unfold dpO
      rw [b _ (by omega)]
    have e : lyP O W s (ntO O + 1) = lyP O W s (ntO O) ++ [(bgO O (ntO O) + s, dpO O (ntO O))] := by
      show (inO O W s (ntO O)).foldl apO (lyP O W s (ntO O)) = _
      unfold inO
      rw [if_pos rfl, if_pos c]
      show apO (apO (lyP O W s (ntO O)) (bgO O (ntO O), dpO O (ntO O) + s)) (bgO O (ntO O) + s, dpO O (ntO O)) = _
      have e1 : apO (lyP O W s (ntO O)) (bgO O (ntO O), dpO O (ntO O) + s) = lyP O W s (ntO O) := by
        unfold apO
        rw [if_pos ⟨by omega, l1⟩]
      rw [e1]
      refine ap_new (fun _ => ?_)
      rw [l1]
      show ¬ dpO O (ntO O) + s = dpO O (ntO O)
      omega
    show (lyP O W s (ntO O + 1)).length = ntO O + 1 ∧ ∀ j, j < ntO O + 1 → (lyP O W s (ntO O + 1)).getD j (0, 0) = _
    rw [e]
    refine ⟨by rw [len_1, a], fun j hj => ?_⟩
    by_cases q : j = ntO O
    · rw [if_pos q, q, gd_r (by omega), a, Nat.sub_self]; rfl
    · rw [if_neg q, gd_l (by omega)]; exact b j (by omega)
  | d + 1, hd => by
    obtain ⟨a, b⟩ := ly_s1 h hs c n0 e0 d (by omega)
    have k1 : ¬ ntO O + 1 + d = ntO O := by omega
    have e : lyP O W s (ntO O + 1 + d + 1) = lyP O W s (ntO O + 1 + d) ++ [(bgO O (ntO O + 1 + d), dpO O (ntO O + 1 + d))] := by
      show (inO O W s (ntO O + 1 + d)).foldl apO (lyP O W s (ntO O + 1 + d)) = _
      unfold inO
      rw [if_neg k1]
      show apO (lyP O W s (ntO O + 1 + d)) (bgO O (ntO O + 1 + d), dpO O (ntO O + 1 + d)) = _
      refine ap_new (fun _ => ?_)
      rw [a]
      have dd := h.2.2.2.2 (ntO O + d) (by omega)
      rw [show ntO O + d + 1 = ntO O + 1 + d by omega] at dd
      have e2 : dpO (lyP O W s (ntO O + 1 + d)) (ntO O + 1 + d - 1) = dpO O (ntO O + d) := by
        rw [show ntO O + 1 + d - 1 = ntO O + d by omega]
        unfold dpO
        rw [b (ntO O + d) (by omega)]
        by_cases q : ntO O + d = ntO O
        · rw [if_pos q, q]; rfl
        · rw [if_neg q]
      rw [e2]
      exact dd
    show (lyP O W s (ntO O + 1 + d + 1)).length = ntO O + 1 + d + 1 ∧ ∀ j, j < ntO O + 1 + d + 1 → (lyP O W s (ntO O + 1 + d + 1)).getD j (0, 0) = _
    rw [e]
    refine ⟨by rw [len_1, a], fun j hj => ?_⟩
    by_cases q : j < ntO O + 1 + d
    · rw [gd_l (by omega)]; exact b j q
    · rw [show j = ntO O + 1 + d by omega, if_neg k1, gd_r (by omega), a, Nat.sub_self]; rfl
/-- a square beside what is left of the notch, a piece of its own -/
theorem ly_s2 (h : OkO O W) (hs : 0 < s) (c : s < enO O W (ntO O) - bgO O (ntO O)) (e0 : 0 < ntO O → ¬ dpO O (ntO O - 1) = dpO O (ntO O) + s) : ∀ d, ntO O + 1 + d ≤ O.length → (lyP O W s (ntO O + 1 + d)).length = ntO O + 2 + d ∧ ∀ j, j < ntO O + 2 + d → (lyP O W s (ntO O + 1 + d)).getD j (0, 0) = if j < ntO O then O.getD j (0, 0) else if j = ntO O then (bgO O (ntO O), dpO O (ntO O) + s) else if j = ntO O + 1 then (bgO O (ntO O) + s, dpO O (ntO O)) else O.getD (j - 1) (0, 0)
  | 0, hd => by
    obtain ⟨a, b⟩ := ly_lo (s := s) h (ntO O) (Nat.le_refl _)
    have e : lyP O W s (ntO O + 1) = lyP O W s (ntO O) ++ [(bgO O (ntO O), dpO O (ntO O) + s)] ++ [(bgO O (ntO O) + s, dpO O (ntO O))] := by
      show (inO O W s (ntO O)).foldl apO (lyP O W s (ntO O)) = _
      unfold inO
      rw [if_pos rfl, if_pos c]
      show apO (apO (lyP O W s (ntO O)) (bgO O (ntO O), dpO O (ntO O) + s)) (bgO O (ntO O) + s, dpO O (ntO O)) = _
      have e1 : apO (lyP O W s (ntO O)) (bgO O (ntO O), dpO O (ntO O) + s) = lyP O W s (ntO O) ++ [(bgO O (ntO O), dpO O (ntO O) + s)] := by
        refine ap_new (fun z => ?_)
        rw [a] at z ⊢
        have e2 : dpO (lyP O W s (ntO O)) (ntO O - 1) = dpO O (ntO O - 1) := by
          unfold dpO
          rw [b _ (by omega)]
        rw [e2]
        exact e0 z
      rw [e1]
      refine ap_new (fun _ => ?_)
      rw [len_1, Nat.add_sub_cancel, dp_n]
      show ¬ dpO O (ntO O) + s = dpO O (ntO O)
      omega
    show (lyP O W s (ntO O + 1)).length = ntO O + 2 ∧ ∀ j, j < ntO O + 2 → (lyP O W s (ntO O + 1)).getD j (0, 0) = _
    rw [e]
    refine ⟨by rw [len_1, len_1, a], fun j hj => ?_⟩
    by_cases q : j < ntO O
    · rw [if_pos q, gd_l (by rw [len_1, a]; omega), gd_l (by omega)]; exact b j q
    · rw [if_neg q]
      by_cases q2 : j = ntO O
      · rw [if_pos q2, q2, gd_l (by rw [len_1, a]; omega), gd_r (by omega), a, Nat.sub_self]; rfl
      · rw [if_neg q2, if_pos (by omega), gd_r (by rw [len_1, a]; omega), len_1, a, show j - (ntO O + 1) = 0 by omega]; rfl
  | d + 1, hd => by
    obtain ⟨a, b⟩ := ly_s2 h hs c e0 d (by omega)
    have k1 : ¬ ntO O + 1 + d = ntO O := by omega
    have e : lyP O W s (ntO O + 1 + d + 1) = lyP O W s (ntO O + 1 + d) ++ [(bgO O (ntO O + 1 + d), dpO O (ntO O + 1 + d))] := by
      show (inO O W s (ntO O + 1 + d)).foldl apO (lyP O W s (ntO O + 1 + d)) = _
      unfold inO
      rw [if_neg k1]
      show apO (lyP O W s (ntO O + 1 + d)) (bgO O (ntO O + 1 + d), dpO O (ntO O + 1 + d)) = _
      refine ap_new (fun _ => ?_)
      rw [a]
      have dd := h.2.2.2.2 (ntO O + d) (by omega)
      rw [show ntO O + d + 1 = ntO O + 1 + d by omega] at dd
      have e2 : dpO (lyP O W s (ntO O + 1 + d)) (ntO O + 2 + d - 1) = dpO O (ntO O + d) := by
        rw [show ntO O + 2 + d - 1 = ntO O + 1 + d by omega]
        unfold dpO
        rw [b (ntO O + 1 + d) (by omega), if_neg (by omega), if_neg k1]
        by_cases q : ntO O + 1 + d = ntO O + 1
        · rw [if_pos q, show ntO O + d = ntO O by omega]; rfl
        · rw [if_neg q, show ntO O + 1 + d - 1 = ntO O + d by omega]
      rw [e2]
      exact dd
    show (lyP O W s (ntO O + 1 + d + 1)).length = ntO O + 2 + d + 1 ∧ ∀ j, j < ntO O + 2 + d + 1 → (lyP O W s (ntO O + 1 + d + 1)).getD j (0, 0) = _
    rw [e]
    refine ⟨by rw [len_1, a], fun j hj => ?_⟩
    by_cases q : j < ntO O + 2 + d
    · rw [gd_l (by omega)]; exact b j q
    · rw [show j = ntO O + 2 + d by omega, if_neg (by omega), if_neg (by omega), if_neg (by omega), gd_r (by omega), a, Nat.sub_self, show ntO O + 2 + d - 1 = ntO O + 1 + d by omega]; rfl
end
