section
variable {M : am_Mem} {t : Nat} {q : Rc}
theorem c_pt1 {N : Nat} (h : TilR M t q) (hl : q.2.2.2.length ≤ 40) (x y ex ey : Int32) : ∀ k j fuel, j + k = q.2.2.2.length → k < fuel → fn10_isPart_b78 N fuel t x y ex ey (nI (cntU (ptT q.2.2.2 x y ex ey) j)) (nI j) M = some (if anyU (fun k => ptT q.2.2.2 x y ex ey k && ptO q.2.2.2 x y ex ey k) j k = true then 0 else if cntU (ptT q.2.2.2 x y ex ey) q.2.2.2.length < q.2.2.2.length then 1 else 0, M) := by
  intro k
  induction k with
  | zero =>
    intro j fuel hj hf
    obtain ⟨f, rfl⟩ : ∃ f, fuel = f + 1 := ⟨fuel - 1, by omega⟩
    have : j = q.2.2.2.length := by omega
    subst this
    have hc := cntU_le (ptT q.2.2.2 x y ex ey) q.2.2.2.length
    show fn10_isPart_b78B N (fn10_isPart_b78 N f) t x y ex ey _ (nI _) M = _
    unfold fn10_isPart_b78B fn10_isPart_b226 anyU
    rw [k_til h, nk_ck, h.2.1.2.1, if_pos (nI_le (Nat.le_refl _) (by omega))]
    by_cases e : cntU (ptT q.2.2.2 x y ex ey) q.2.2.2.length < q.2.2.2.length
    · rw [if_neg (nI_ge e (by omega)), if_pos e]; rfl
    · rw [if_pos (nI_le (by omega) (by omega)), if_neg e]; rfl
  | succ k ih =>
    intro j fuel hj hf
    obtain ⟨f, rfl⟩ : ∃ f, fuel = f + 1 := ⟨fuel - 1, by omega⟩
    have hj' : j < q.2.2.2.length := by omega
    have g := ih (j + 1) f (by omega) (by omega)
    rw [cntU] at g
    have hr := c_right h hl hj'
    have hb := c_bottom h hl hj'
    obtain ⟨tK, ⟨tf, t4, t5, t6⟩, ⟨_, _, k7, l7⟩, ⟨_, _, k8, l8⟩, ⟨_, _, k9, l9⟩, x7, x8, x9⟩ := h
    have hin : am_in (nI j) q.2.2.2.length = true := nk_in hj' (by omega)
    have hcl : (nI j).toNatClampNeg = j := nI_clamp (by omega)
    have hle : ¬ nI q.2.2.2.length ≤ nI j := nI_ge hj' (by omega)
    show fn10_isPart_b78B N (fn10_isPart_b78 N f) t x y ex ey _ (nI j) M = _
    unfold fn10_isPart_b78B fn10_isPart_b136 fn10_isPart_b137 fn10_isPart_b189 fn10_isPart_b191 fn10_isPart_b203 fn10_isPart_b206 anyU
    simp only [nk_k, tK.2.2, eq_self, decide_true, nk_ck, t4, hle, if_false, k7, k8, l7, l8, hin, hcl, x7 j hj', x8 j hj', hr, hb, nk_bd, z_1, if_true, nI_1, Int32.add_zero]
    have no : ptT q.2.2.2 x y ex ey j = false → (if ptT q.2.2.2 x y ex ey j = true then 1 else 0) = 0 ∧ ((ptT q.2.2.2 x y ex ey j && ptO q.2.2.2 x y ex ey j) || anyU (fun k => ptT q.2.2.2 x y ex ey k && ptO q.2.2.2 x y ex ey k) (j + 1) k) = anyU (fun k => ptT q.2.2.2 x y ex ey k && ptO q.2.2.2 x y ex ey k) (j + 1) k := by
      intro e
      rw [e]
      exact ⟨rfl, rfl⟩
    by_cases c1 : ex ≤ qX q.2.2.2 j
    · have e : ptT q.2.2.2 x y ex ey j = false := by unfold ptT; simp [c1]
      rw [if_pos c1, (no e).2]
      rw [(no e).1] at g
      exact g
    rw [if_neg c1]
    by_cases c2 : qX q.2.2.2 j + qS q.2.2.2 j ≤ x
    · have e : ptT q.2.2.2 x y ex ey j = false := by unfold ptT; simp [c2]
      rw [if_pos c2, (no e).2]
      rw [(no e).1] at g
      exact g
    rw [if_neg c2]
    by_cases c3 : ey ≤ qY q.2.2.2 j
    · have e : ptT q.2.2.2 x y ex ey j = false := by unfold ptT; simp [c3]
      rw [if_pos c3, (no e).2]
      rw [(no e).1] at g
      exact g
    rw [if_neg c3]
    by_cases c4 : qY q.2.2.2 j + qS q.2.2.2 j ≤ y
    · have e : ptT q.2.2.2 x y ex ey j = false := by unfold ptT; simp [c4]
      rw [if_pos c4, (no e).2]
      rw [(no e).1] at g
      exact g
    rw [if_neg c4]
    have e : ptT q.2.2.2 x y ex ey j = true := by unfold ptT; rw [decide_eq_true c1, decide_eq_true c2, decide_eq_true c3, decide_eq_true c4]; rfl
    have yes : ptO q.2.2.2 x y ex ey j = true → (if ((ptT q.2.2.2 x y ex ey j && ptO q.2.2.2 x y ex ey j) || anyU (fun k => ptT q.2.2.2 x y ex ey k && ptO q.2.2.2 x y ex ey k) (j + 1) k) = true then (0 : Int32) else if cntU (ptT q.2.2.2 x y ex ey) q.2.2.2.length < q.2.2.2.length then 1 else 0) = 0 := by
      intro o
      rw [e, o]
      rfl
    by_cases d1 : qX q.2.2.2 j < x
    · rw [if_pos d1, yes (by unfold ptO; simp [d1])]
    rw [if_neg d1]
    by_cases d2 : ex < qX q.2.2.2 j + qS q.2.2.2 j
    · rw [if_pos d2, yes (by unfold ptO; simp [d2])]
    rw [if_neg d2]
    by_cases d3 : qY q.2.2.2 j < y
    · rw [if_pos d3, yes (by unfold ptO; simp [d3])]
    rw [if_neg d3]
    by_cases d4 : qY q.2.2.2 j + qS q.2.2.2 j ≤ ey
    · have o : ptO q.2.2.2 x y ex ey j = false := by unfold ptO; rw [decide_eq_false d1, decide_eq_false d2, decide_eq_false d3, decide_eq_false (not_not_intro d4)]; rfl
      rw [if_pos d4, o, Bool.and_false, Bool.false_or]
      rw [if_pos e] at g
      exact g
    · rw [if_neg d4, yes (by unfold ptO; rw [decide_eq_true d4]; simp)]
theorem c_part {N : Nat} (hN : 100000 ≤ N) (h : TilR M t q) (hl : q.2.2.2.length ≤ 40) {a b : Nat} (ha : a < q.2.2.2.length) (hb : b < q.2.2.2.length) : fn10_isPart N M t (nI a) (nI b) = some (if ptB q.2.2.2 a b = true then 1 else 0, M) := by
  have lo := c_pt1 (N := N) h hl (qX q.2.2.2 a) (qY q.2.2.2 a) (qX q.2.2.2 b + qS q.2.2.2 b) (qY q.2.2.2 b + qS q.2.2.2 b) q.2.2.2.length 0 N (by omega) (by omega)
  have ra := c_right h hl ha
  have rb := c_right h hl hb
  have ba := c_bottom h hl ha
  have bb := c_bottom h hl hb
  obtain ⟨tK, ⟨tf, t4, t5, t6⟩, ⟨_, _, k7, l7⟩, ⟨_, _, k8, l8⟩, ⟨_, _, k9, l9⟩, x7, x8, x9⟩ := h
  have ia : am_in (nI a) q.2.2.2.length = true := nk_in ha (by omega)
  have ib : am_in (nI b) q.2.2.2.length = true := nk_in hb (by omega)
  have ca : (nI a).toNatClampNeg = a := nI_clamp (by omega)
  have cb : (nI b).toNatClampNeg = b := nI_clamp (by omega)
  unfold fn10_isPart fn10_isPart_b0 fn10_isPart_b7 fn10_isPart_b15 fn10_isPart_b70
  simp only [nk_k, tK.2.2, eq_self, decide_true, nk_ck, k7, k8, l7, l8, ia, ib, ca, cb, x7 a ha, x8 a ha, x7 b hb, x8 b hb, ra, rb, ba, bb, nk_bd]
  rw [show fn10_isPart_b78 N N t (qX q.2.2.2 a) (qY q.2.2.2 a) (qX q.2.2.2 b + qS q.2.2.2 b) (qY q.2.2.2 b + qS q.2.2.2 b) 0 0 M = _ from lo]
  unfold ptB
  rw [any_cnt]
  by_cases c1 : qX q.2.2.2 b + qS q.2.2.2 b < qX q.2.2.2 a + qS q.2.2.2 a
  · rw [if_pos c1, decide_eq_false (not_not_intro c1)]
    simp
  rw [if_neg c1, decide_eq_true c1]
  by_cases c2 : qY q.2.2.2 b + qS q.2.2.2 b < qY q.2.2.2 a + qS q.2.2.2 a
  · rw [if_pos c2, decide_eq_false (not_not_intro c2)]
    simp
  rw [if_neg c2, decide_eq_true c2]
  by_cases c3 : qX q.2.2.2 b < qX q.2.2.2 a
  · rw [if_pos c3, decide_eq_false (not_not_intro c3)]
    simp
  rw [if_neg c3, decide_eq_true c3]
  by_cases c4 : qY q.2.2.2 a ≤ qY q.2.2.2 b
  · rw [if_pos c4, decide_eq_true c4]
    by_cases c5 : anyU (fun k => ptT q.2.2.2 (qX q.2.2.2 a) (qY q.2.2.2 a) (qX q.2.2.2 b + qS q.2.2.2 b) (qY q.2.2.2 b + qS q.2.2.2 b) k && ptO q.2.2.2 (qX q.2.2.2 a) (qY q.2.2.2 a) (qX q.2.2.2 b + qS q.2.2.2 b) (qY q.2.2.2 b + qS q.2.2.2 b) k) 0 q.2.2.2.length = true
    · rw [if_pos c5, c5]
      simp
    · rw [if_neg c5, Bool.eq_false_iff.mpr c5]
      by_cases c6 : cntU (ptT q.2.2.2 (qX q.2.2.2 a) (qY q.2.2.2 a) (qX q.2.2.2 b + qS q.2.2.2 b) (qY q.2.2.2 b + qS q.2.2.2 b)) q.2.2.2.length < q.2.2.2.length
      · rw [if_pos c6, decide_eq_true c6]
        simp
      · rw [if_neg c6, decide_eq_false c6]
        simp
  · rw [if_neg c4, decide_eq_false c4]
    simp
theorem c_pts1 {N : Nat} (hN : 100000 ≤ N) (h : TilR M t q) (hl : q.2.2.2.length ≤ 40) (K : Nat → Int32 → Int32 → am_Mem → Option (Int32 × am_Mem)) {a S : Nat} (ha : a < q.2.2.2.length) : ∀ k j fuel, j + k = q.2.2.2.length → k < fuel → fn10_parts_b22 N K fuel t (nI (S + cntU (fun b => decide (¬ a = b) && ptB q.2.2.2 a b) j)) (nI a) (nI j) M = K t (nI (S + cntU (fun b => decide (¬ a = b) && ptB q.2.2.2 a b) q.2.2.2.length)) (nI (a + 1)) M := by
  intro k
  induction k with
  | zero =>
    intro j fuel hj hf
    obtain ⟨f, rfl⟩ : ∃ f, fuel = f + 1 := ⟨fuel - 1, by omega⟩
    have : j = q.2.2.2.length := by omega
    subst this
    show fn10_parts_b22B N K (fn10_parts_b22 N K f) t _ (nI a) (nI _) M = _
    unfold fn10_parts_b22B
    rw [k_til h, nk_ck, h.2.1.2.1, if_pos (nI_le (Nat.le_refl _) (by omega)), nI_1]
  | succ k ih =>
    intro j fuel hj hf
    obtain ⟨f, rfl⟩ : ∃ f, fuel = f + 1 := ⟨fuel - 1, by omega⟩
    have hj' : j < q.2.2.2.length := by omega
    have g := ih (j + 1) f (by omega) (by omega)
    rw [cntU] at g
    show fn10_parts_b22B N K (fn10_parts_b22 N K f) t _ (nI a) (nI j) M = _
    unfold fn10_parts_b22B fn10_parts_b49 fn10_parts_b50 fn10_parts_b52
    rw [k_til h, nk_ck, h.2.1.2.1, if_neg (nI_ge hj' (by omega))]
    simp only [nI_1, Int32.add_zero]
    by_cases e : a = j
    · subst e
      rw [if_pos rfl]
      rw [if_neg (by rw [decide_eq_false (fun h => h rfl), Bool.false_and]; decide)] at g
      exact g
    · rw [if_neg (fun x => e ((nI_eq (by omega) (by omega)).mp x)), c_part hN h hl ha hj', nk_bd]
      rw [decide_eq_true e, Bool.true_and] at g
      by_cases e2 : ptB q.2.2.2 a j = true
      · rw [if_pos e2, if_neg z_1]
        rw [if_pos e2] at g
        exact g
      · rw [if_neg e2, if_pos rfl]
        rw [if_neg e2] at g
        exact g
theorem c_pts2 {N : Nat} (hN : 100000 ≤ N) (h : TilR M t q) (hl : q.2.2.2.length ≤ 40) : ∀ k j fuel, j + k = q.2.2.2.length → k < fuel → fn10_parts_b12 N fuel t (nI (sumU (fun a => cntU (fun b => decide (¬ a = b) && ptB q.2.2.2 a b) q.2.2.2.length) j)) (nI j) M = some (nI (partsN q.2.2.2), am_wI M t 10 (nI (partsN q.2.2.2))) := by
  intro k
  induction k with
  | zero =>
    intro j fuel hj hf
    obtain ⟨f, rfl⟩ : ∃ f, fuel = f + 1 := ⟨fuel - 1, by omega⟩
    have : j = q.2.2.2.length := by omega
    subst this
    show fn10_parts_b12B N (fn10_parts_b12 N f) t _ (nI _) M = _
    unfold fn10_parts_b12B fn10_parts_b69 partsN
    rw [k_til h, nk_ck, h.2.1.2.1, if_pos (nI_le (Nat.le_refl _) (by omega)), nk_k, rK_wI, h.1.2.2, nk_dd, rI_eq]
  | succ k ih =>
    intro j fuel hj hf
    obtain ⟨f, rfl⟩ : ∃ f, fuel = f + 1 := ⟨fuel - 1, by omega⟩
    have hj' : j < q.2.2.2.length := by omega
    have g := ih (j + 1) f (by omega) (by omega)
    rw [sumU] at g
    have lo := c_pts1 hN h hl (fn10_parts_b12 N f) (S := sumU (fun a => cntU (fun b => decide (¬ a = b) && ptB q.2.2.2 a b) q.2.2.2.length) j) hj' q.2.2.2.length 0 N (by omega) (by omega)
    show fn10_parts_b12B N (fn10_parts_b12 N f) t _ (nI j) M = _
    unfold fn10_parts_b12B
    rw [k_til h, nk_ck, h.2.1.2.1, if_neg (nI_ge hj' (by omega)), show fn10_parts_b22 N (fn10_parts_b12 N f) N t (nI (sumU (fun a => cntU (fun b => decide (¬ a = b) && ptB q.2.2.2 a b) q.2.2.2.length) j)) (nI j) 0 M = _ from lo]
    exact g
theorem c_parts {N : Nat} (hN : 100000 ≤ N) (h : TilR M t q) (hl : q.2.2.2.length ≤ 40) (c : CchR M t q) : ∃ M', fn10_parts N M t = some (nI (partsN q.2.2.2), M') ∧ (M' = M ∨ M' = am_wI M t 10 (nI (partsN q.2.2.2))) := by
  have hp := partsN_le q.2.2.2 hl
  unfold fn10_parts fn10_parts_b0
  rw [k_til h, nk_ck]
  rcases c with c | c
  · rw [if_pos c]
    exact ⟨_, c_pts2 hN h hl q.2.2.2.length 0 N (by omega) (by omega), Or.inr rfl⟩
  · have hn : ¬ nI (partsN q.2.2.2) = -1 := fun e => by
      have := congrArg Int32.toInt e
      rw [nI_toInt (by omega), show (-1 : Int32).toInt = -1 from rfl] at this
      omega
    rw [c, if_neg hn]
    unfold fn10_parts_b69
    rw [k_til h, nk_ck, c]
    exact ⟨M, rfl, Or.inl rfl⟩
end
section
variable {M : am_Mem} {m : Nat} {D : Nat → Rc}
theorem i64_sq (a : Int) (s : Int32) : Int64.ofInt a + s.toInt64 * s.toInt64 = Int64.ofInt (a + s.toInt * s.toInt) := by
  rw [Int64.ofInt_add]
  congr 1
  rw [← i64_mulT, Int64.ofInt_toInt]
theorem m_pt1 {N : Nat} (h : ModI M m D) {i : Nat} (hi : i < m) {w y : Int} (g : Geo w y (D i).2.2.2) (x1 y1 x2 y2 : Int32) : ∀ k j fuel, j + k = (D i).2.2.2.length → k < fuel → fn12_isPart_b9 N fuel 110 (nI i) x1 y1 x2 y2 (nI (cntU (inB (D i).2.2.2 x1.toInt y1.toInt x2.toInt y2.toInt) j)) (Int64.ofInt (arI (D i).2.2.2 x1.toInt y1.toInt x2.toInt y2.toInt j)) (nI j) M =
    some (if 1 < cntU (inB (D i).2.2.2 x1.toInt y1.toInt x2.toInt y2.toInt) (D i).2.2.2.length ∧ cntU (inB (D i).2.2.2 x1.toInt y1.toInt x2.toInt y2.toInt) (D i).2.2.2.length < (D i).2.2.2.length ∧ Int64.ofInt (arI (D i).2.2.2 x1.toInt y1.toInt x2.toInt y2.toInt (D i).2.2.2.length) = (x2 - x1).toInt64 * (y2 - y1).toInt64 then 1 else 0, M) := by
  have hl := g.2.1
  have s := h.1
  intro k
  induction k with
  | zero =>
    intro j fuel hj hf
    obtain ⟨f, rfl⟩ : ∃ f, fuel = f + 1 := ⟨fuel - 1, by omega⟩
    have : j = (D i).2.2.2.length := by omega
    subst this
    have hc := cntU_le (inB (D i).2.2.2 x1.toInt y1.toInt x2.toInt y2.toInt) (D i).2.2.2.length
    show fn12_isPart_b9B N (fn12_isPart_b9 N f) 110 (nI i) x1 y1 x2 y2 _ _ (nI _) M = _
    unfold fn12_isPart_b9B fn12_isPart_b161 fn12_isPart_b162
    rw [kw_110 h, nk_ck, mw_n h hi, nk_bd, if_pos (nI_le (Nat.le_refl _) (by omega)), kw_110 h, nk_ck, mw_n h hi, nk_bd]
    by_cases e1 : 1 < cntU (inB (D i).2.2.2 x1.toInt y1.toInt x2.toInt y2.toInt) (D i).2.2.2.length
    · rw [if_neg (show ¬ nI _ ≤ 1 from nI_ge (a := 1) e1 (by omega))]
      by_cases e2 : cntU (inB (D i).2.2.2 x1.toInt y1.toInt x2.toInt y2.toInt) (D i).2.2.2.length < (D i).2.2.2.length
      · rw [if_neg (nI_ge e2 (by omega))]
        simp only [lg_cmp_eq]
        by_cases e3 : Int64.ofInt (arI (D i).2.2.2 x1.toInt y1.toInt x2.toInt y2.toInt (D i).2.2.2.length) = (x2 - x1).toInt64 * (y2 - y1).toInt64
        · rw [if_pos e3, if_pos ⟨e1, e2, e3⟩]; rfl
        · rw [if_neg e3, if_neg (fun x => e3 x.2.2)]; rfl
      · rw [if_pos (nI_le (by omega) (by omega)), if_neg (fun x => e2 x.2.1)]; rfl
    · rw [if_pos (show nI _ ≤ 1 from nI_le (b := 1) (by omega) (by decide)), if_neg (fun x => e1 x.1)]; rfl
  | succ k ih =>
    intro j fuel hj hf
    obtain ⟨f, rfl⟩ : ∃ f, fuel = f + 1 := ⟨fuel - 1, by omega⟩
    have hj' : j < (D i).2.2.2.length := by omega
    have g1 := ih (j + 1) f (by omega) (by omega)
    obtain ⟨c1, c2, c3, c4, c5, c6, c7⟩ := geo_at g hj'
    have ea : arI (D i).2.2.2 x1.toInt y1.toInt x2.toInt y2.toInt (j + 1) = arI (D i).2.2.2 x1.toInt y1.toInt x2.toInt y2.toInt j + (if inB (D i).2.2.2 x1.toInt y1.toInt x2.toInt y2.toInt j = true then (qS (D i).2.2.2 j).toInt * (qS (D i).2.2.2 j).toInt else 0) := rfl
    rw [cntU, ea] at g1
    show fn12_isPart_b9B N (fn12_isPart_b9 N f) 110 (nI i) x1 y1 x2 y2 _ _ (nI j) M = _
    unfold fn12_isPart_b9B fn12_isPart_b33 fn12_isPart_b117
    have hle : ¬ nI (D i).2.2.2.length ≤ nI j := nI_ge hj' (by omega)
    simp only [kw_110 h, nk_ck, mw_n h hi, nk_bd, hle, if_false, mw_X h hi hj', mw_Y h hi hj', mw_S h hi hj', lg_cmp_gt, lg_cmp_le, nI_1]
    simp only [Int64.lt_iff_toInt_lt, Int64.le_iff_toInt_le, i64_addT, Int32.toInt_toInt64, Int32.lt_iff_toInt_lt]
    have no : inB (D i).2.2.2 x1.toInt y1.toInt x2.toInt y2.toInt j = false → ∀ R, fn12_isPart_b9 N f 110 (nI i) x1 y1 x2 y2 (nI (cntU (inB (D i).2.2.2 x1.toInt y1.toInt x2.toInt y2.toInt) j + (if inB (D i).2.2.2 x1.toInt y1.toInt x2.toInt y2.toInt j = true then 1 else 0))) (Int64.ofInt (arI (D i).2.2.2 x1.toInt y1.toInt x2.toInt y2.toInt j + (if inB (D i).2.2.2 x1.toInt y1.toInt x2.toInt y2.toInt j = true then (qS (D i).2.2.2 j).toInt * (qS (D i).2.2.2 j).toInt else 0))) (nI (j + 1)) M = R → fn12_isPart_b9 N f 110 (nI i) x1 y1 x2 y2 (nI (cntU (inB (D i).2.2.2 x1.toInt y1.toInt x2.toInt y2.toInt) j)) (Int64.ofInt (arI (D i).2.2.2 x1.toInt y1.toInt x2.toInt y2.toInt j)) (nI (j + 1)) M = R := by
      intro e R hR
      rw [e, if_neg (by decide), if_neg (by decide), Nat.add_zero, Int.add_zero] at hR
      exact hR
    have f1 : ¬ (x1.toInt ≤ (qX (D i).2.2.2 j).toInt ∧ y1.toInt ≤ (qY (D i).2.2.2 j).toInt ∧ (qX (D i).2.2.2 j).toInt + (qS (D i).2.2.2 j).toInt ≤ x2.toInt ∧ (qY (D i).2.2.2 j).toInt + (qS (D i).2.2.2 j).toInt ≤ y2.toInt) → inB (D i).2.2.2 x1.toInt y1.toInt x2.toInt y2.toInt j = false := fun e => by
      rw [Bool.eq_false_iff]
      exact fun e2 => e (inB_iff.mp e2)
    by_cases d1 : (qX (D i).2.2.2 j).toInt < x1.toInt
    · rw [if_pos d1]
      exact no (f1 (by omega)) _ g1
    rw [if_neg d1]
    by_cases d2 : (qY (D i).2.2.2 j).toInt < y1.toInt
    · rw [if_pos d2]
      exact no (f1 (by omega)) _ g1
    rw [if_neg d2]
    by_cases d3 : x2.toInt < (qX (D i).2.2.2 j).toInt + (qS (D i).2.2.2 j).toInt
    · rw [if_pos d3]
      exact no (f1 (by omega)) _ g1
    rw [if_neg d3]
    by_cases d4 : (qY (D i).2.2.2 j).toInt + (qS (D i).2.2.2 j).toInt ≤ y2.toInt
    · rw [if_pos d4, i64_sq]
      have e : inB (D i).2.2.2 x1.toInt y1.toInt x2.toInt y2.toInt j = true := inB_iff.mpr (by omega)
      rw [if_pos e, if_pos e] at g1
      exact g1
    · rw [if_neg d4]
      exact no (f1 (by omega)) _ g1
end
