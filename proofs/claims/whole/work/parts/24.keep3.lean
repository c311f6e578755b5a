theorem kst {N : Nat} (hN : 100000 ≤ N) {M : am_Mem} {told m : Nat} {D : Nat → Rc} (h : InvAt M told m D) {b : Nat} (hb : b < 2) : ∃ (M1 M2 : am_Mem), fn11_keep_b24 N (106 + 2 * b) 1 0 M = some (1, M1) ∧ am_K M1 110 = 12 ∧ fn12_keep N M1 110 (nI b) 0 = some (1, M2) ∧ InvAt M2 told m D := by
  obtain ⟨M1, c1, c2⟩ := ck_store hN h hb
  have s := i_shp h
  have s1 : Shp M1 := cpq_shp c2 s (by omega)
  have d1 : Dyn M M1 := cpq_dyn c2 (by omega) (by omega)
  obtain ⟨⟨x1, x2, x3, x4⟩, x5, x6, x7, x8, x9⟩ := c2
  obtain ⟨M2, m1, m2⟩ := mk_store hN s1 hb (m := m) (by rw [x5 110 (by omega)]; exact i_18 h)
  obtain ⟨⟨y1, y2, y3, y4, y5⟩, y6, y7, y8, y9, y10, y11, y12, y13⟩ := m2
  refine ⟨M1, M2, c1, sk110 s1, m1, ?_⟩
  have s2 : Shp M2 := ⟨by rw [y1]; exact s1.1, by rw [y2, y3]; exact s1.2.1, by rw [y5]; exact s1.2.2⟩
  have dy : Dyn M M2 := dyn_trans d1 ⟨by omega, fun a ha _ => ⟨by rw [y2], by rw [y3], by rw [y5], y6 a (by omega) (by omega) (by omega) (by omega), by rw [y4]⟩⟩
  have fi : ∀ a, ¬ a = 106 + 2 * b → ¬ a = 110 → ¬ a = 118 → ¬ a = 119 → ¬ a = 120 → am_I M2 a = am_I M a := fun a z1 z2 z3 z4 z5 => (y6 a z2 z3 z4 z5).trans (x5 a z1)
  have f110 : ∀ i, ¬ i = 0 → am_I M2 110 i = am_I M 110 i := fun i hi => by rw [y7 i hi, x5 110 (by omega)]
  have fr : ∀ a, ¬ a = 107 + 2 * b → am_R M2 a = am_R M a := fun a ha => by rw [y5]; exact x8 a ha
  have tol : TolF M M2 := ⟨fi _ (by omega) (by omega) (by omega) (by omega) (by omega), fi _ (by omega) (by omega) (by omega) (by omega) (by omega), fi _ (by omega) (by omega) (by omega) (by omega) (by omega), fi _ (by omega) (by omega) (by omega) (by omega) (by omega), fi _ (by omega) (by omega) (by omega) (by omega) (by omega), by rw [y4, x4], by rw [y4, x4], by rw [y4, x4]⟩
  obtain ⟨_, t, p, l, ⟨u, u1, u2, u3⟩, k1, k2, k3, k4, k5, k6⟩ := h
  have hm := k4.1
  have c117 : am_I M1 117 = am_I M 117 := x5 117 (by omega)
  have c118 : am_I M1 118 = am_I M 118 := x5 118 (by omega)
  have knew : KepR M2 (b + 1) told := by
    have e1 : 104 + 2 * (b + 1) = 106 + 2 * b := by omega
    have e2 : 105 + 2 * (b + 1) = 107 + 2 * b := by omega
    refine Or.inr ⟨?_, y12, m, D, ⟨hm, k4.2.1, ?_, fun i hi => recr_fr dy tol (j := 0) (j' := b + 1) ?_ (fun k hk => ?_) (k4.2.2.2 i hi)⟩, y10⟩
    · rw [e1, y6 _ (by omega) (by omega) (by omega) (by omega)]; exact x7
    · rw [e1, y6 _ (by omega) (by omega) (by omega) (by omega)]; exact x6
    · rw [e2, y5]; exact x9 i hi
    · have e3 : mO (b + 1) + 124 * i + k = 1488 * b + (124 * i + k) := by unfold mO; omega
      have e4 : mO 0 + 124 * i + k = 124 * i + k := by unfold mO; omega
      have e5 : mA (b + 1) = 118 := by unfold mA; rw [if_neg (by omega)]
      have e6 : mA 0 = 117 := rfl
      rw [e3, e4, e5, e6, y8 (124 * i + k) (by omega), c117]
  have kold : ∀ o, o < 2 → ¬ o = b → KepR M (o + 1) told → KepR M2 (o + 1) told := by
    intro o ho hob hk
    have f6 : am_I M2 (104 + 2 * (o + 1)) = am_I M (104 + 2 * (o + 1)) := fi _ (by omega) (by omega) (by omega) (by omega) (by omega)
    have f7 : am_I M2 120 o = am_I M 120 o := by rw [y13 o hob, x5 120 (by omega)]
    have f8 : am_I M2 119 o = am_I M 119 o := by rw [y11 o hob, x5 119 (by omega)]
    rcases hk with ⟨a1, a2⟩ | ⟨a1, a2, m2, D2, a3, a4⟩
    · exact Or.inl ⟨(congrFun f6 2).trans a1, f7.trans a2⟩
    · refine Or.inr ⟨(congrFun f6 2).trans a1, f7.trans a2, m2, D2, ⟨a3.1, a3.2.1, (congrFun f6 1).trans a3.2.2.1, fun i hi => recr_fr dy tol (congrFun (fr _ (by omega)) i) (fun k hk => ?_) (a3.2.2.2 i hi)⟩, f8.trans a4⟩
      have e3 : mO (o + 1) + 124 * i + k = 1488 * o + (124 * i + k) := by unfold mO; omega
      have e5 : mA (o + 1) = 118 := by unfold mA; rw [if_neg (by omega)]
      have := a3.1
      rw [e3, e5, y9 _ (by omega), c118]
  refine ⟨s2, tapr_fr ?_ (f110 2 (by decide)) (fi _ (by omega) (by omega) (by omega) (by omega) (by omega)) (fi _ (by omega) (by omega) (by omega) (by omega) (by omega)) t, pagr_fr ?_ (f110 42 (by decide)) (fi _ (by omega) (by omega) (by omega) (by omega) (by omega)) (fi _ (by omega) (by omega) (by omega) (by omega) (by omega)) p, linr_fr dy (congrFun (fr 97 (by omega)) 5) ?_ (fi _ (by omega) (by omega) (by omega) (by omega) (by omega)) (fi _ (by omega) (by omega) (by omega) (by omega) (by omega)) (fi _ (by omega) (by omega) (by omega) (by omega) (by omega)) (fi _ (by omega) (by omega) (by omega) (by omega) (by omega)) l, ⟨u, u1, ?_, (f110 19 (by decide)).trans u3⟩, k1, (f110 40 (by decide)).trans k2, (f110 18 (by decide)).trans k3, shr_fr dy tol (fr 105 (by omega)) ?_ (fi 117 (by omega) (by omega) (by omega) (by omega) (by omega)) k4, ?_, ?_⟩
  · exact congrFun (fi 2 (by omega) (by omega) (by omega) (by omega) (by omega)) 7
  · exact congrFun (fi 102 (by omega) (by omega) (by omega) (by omega) (by omega)) 1
  · exact congrFun (fi 97 (by omega) (by omega) (by omega) (by omega) (by omega)) 4
  · exact (congrFun (fi 1 (by omega) (by omega) (by omega) (by omega) (by omega)) 11).trans u2
  · exact congrFun (fi 104 (by omega) (by omega) (by omega) (by omega) (by omega)) 1
  · by_cases hz : b = 0
    · subst hz; exact knew
    · exact kold 0 (by omega) (by omega) k5
  · by_cases hz : b = 1
    · subst hz; exact knew
    · exact kold 1 (by omega) (by omega) k6
theorem kbk {N : Nat} (hN : 100000 ≤ N) {M : am_Mem} {told m w : Nat} {D E : Nat → Rc} (h : InvAt M told m D) {b : Nat} (hb : b < 2) (q1 : am_I M (106 + 2 * b) 2 = 1) (q2 : am_I M 120 b = 1) (q3 : ShR M (b + 1) told w E) (q4 : am_I M 119 b = nI w) : ∃ (M1 M2 : am_Mem), fn11_keep_b24 N (106 + 2 * b) 1 1 M = some (1, M1) ∧ am_K M1 110 = 12 ∧ fn12_keep N M1 110 (nI b) 1 = some (1, M2) ∧ InvAt M2 told w E := by
  have s := i_shp h
  obtain ⟨M0, c1, c2⟩ := ck_back hN s hb q1 q3
  have s0 : Shp M0 := cpq_shp c2 s (by omega)
  have s1 : Shp (am_wI M0 1 11 0) := s0
  have d1 : Dyn M (am_wI M0 1 11 0) := dyn_trans (cpq_dyn c2 (by omega) (by omega)) (dyn_wI _ _ (by decide))
  obtain ⟨⟨x1, x2, x3, x4⟩, x5, x6, x7, x8, x9⟩ := c2
  have v5 : ∀ a, ¬ a = 104 → ¬ a = 1 → am_I (am_wI M0 1 11 0) a = am_I M a := fun a h1 h2 => by rw [rI_ne _ _ _ h2]; exact x5 a h1
  obtain ⟨M2, m1, m2⟩ := mk_back hN s1 hb (m := w) (by rw [v5 119 (by omega) (by omega)]; exact q4) (by rw [v5 120 (by omega) (by omega)]; exact q2)
  obtain ⟨⟨y1, y2, y3, y4, y5⟩, y6, y7, y8, y9, y10⟩ := m2
  refine ⟨am_wI M0 1 11 0, M2, c1, sk110 s1, m1, ?_⟩
  have s2 : Shp M2 := ⟨by rw [y1]; exact s1.1, by rw [y2, y3]; exact s1.2.1, by rw [y5]; exact s1.2.2⟩
  have dy : Dyn M M2 := dyn_trans d1 ⟨by omega, fun a ha _ => ⟨by rw [y2], by rw [y3], by rw [y5], y6 a (by omega) (by omega), by rw [y4]⟩⟩
  have fi : ∀ a, ¬ a = 104 → ¬ a = 1 → ¬ a = 110 → ¬ a = 117 → am_I M2 a = am_I M a := fun a z1 z2 z3 z4 => (y6 a z3 z4).trans (v5 a z1 z2)
  have f110 : ∀ i, ¬ i = 0 → ¬ i = 18 → ¬ i = 19 → am_I M2 110 i = am_I M 110 i := fun i h1 h2 h3 => by rw [y7 i h1 h2 h3, v5 110 (by omega) (by omega)]
  have fr : ∀ a, ¬ a = 105 → am_R M2 a = am_R M a := fun a ha => by rw [y5]; exact x8 a ha
  have tol : TolF M M2 := ⟨fi _ (by omega) (by omega) (by omega) (by omega), fi _ (by omega) (by omega) (by omega) (by omega), fi _ (by omega) (by omega) (by omega) (by omega), fi _ (by omega) (by omega) (by omega) (by omega), fi _ (by omega) (by omega) (by omega) (by omega), by rw [y4, rJ_wI, x4], by rw [y4, rJ_wI, x4], by rw [y4, rJ_wI, x4]⟩
  obtain ⟨_, t, p, l, _, k1, k2, k3, k4, k5, k6⟩ := h
  have c118 : am_I (am_wI M0 1 11 0) 118 = am_I M 118 := v5 118 (by omega) (by omega)
  have hw := q3.1
  refine ⟨s2, tapr_fr ?_ (f110 2 (by decide) (by decide) (by decide)) (fi _ (by omega) (by omega) (by omega) (by omega)) (fi _ (by omega) (by omega) (by omega) (by omega)) t, pagr_fr ?_ (f110 42 (by decide) (by decide) (by decide)) (fi _ (by omega) (by omega) (by omega) (by omega)) (fi _ (by omega) (by omega) (by omega) (by omega)) p, linr_fr dy (congrFun (fr 97 (by omega)) 5) ?_ (fi _ (by omega) (by omega) (by omega) (by omega)) (fi _ (by omega) (by omega) (by omega) (by omega)) (fi _ (by omega) (by omega) (by omega) (by omega)) (fi _ (by omega) (by omega) (by omega) (by omega)) l, ⟨0, q3.2.1, ?_, y10⟩, k1, (f110 40 (by decide) (by decide) (by decide)).trans k2, y9, ⟨hw, q3.2.1, ?_, fun i hi => recr_fr dy tol (j := b + 1) (j' := 0) ?_ (fun k hk => ?_) (q3.2.2.2 i hi)⟩, kepr_fr dy tol (fr _ (by omega)) (fi _ (by omega) (by omega) (by omega) (by omega)) (fi 118 (by omega) (by omega) (by omega) (by omega)) (fi 119 (by omega) (by omega) (by omega) (by omega)) (fi 120 (by omega) (by omega) (by omega) (by omega)) k5, kepr_fr dy tol (fr _ (by omega)) (fi _ (by omega) (by omega) (by omega) (by omega)) (fi 118 (by omega) (by omega) (by omega) (by omega)) (fi 119 (by omega) (by omega) (by omega) (by omega)) (fi 120 (by omega) (by omega) (by omega) (by omega)) k6⟩
  · exact congrFun (fi 2 (by omega) (by omega) (by omega) (by omega)) 7
  · exact congrFun (fi 102 (by omega) (by omega) (by omega) (by omega)) 1
  · exact congrFun (fi 97 (by omega) (by omega) (by omega) (by omega)) 4
  · rw [y6 1 (by omega) (by omega), rI_eq]; rfl
  · rw [y6 104 (by omega) (by omega), rI_ne _ _ _ (by decide)]; exact x6
  · have e2 : 105 + 2 * (b + 1) = 107 + 2 * b := by omega
    rw [e2, y5]; exact x9 i hi
  · have e3 : mO (b + 1) + 124 * i + k = 1488 * b + (124 * i + k) := by unfold mO; omega
    have e4 : mO 0 + 124 * i + k = 124 * i + k := by unfold mO; omega
    have e5 : mA (b + 1) = 118 := by unfold mA; rw [if_neg (by omega)]
    have e6 : mA 0 = 117 := rfl
    rw [e3, e4, e5, e6, y8 (124 * i + k) (by omega), c118]
theorem ok_keep {N : Nat} (hN : 100000 ≤ N) : OK_keep N Inv := by
  intro M x y hy ⟨told, m, D, h⟩
  have h' := inv_thr h 0
  have s := i_shp h
  have go : ∀ b, b < 2 → KepR M (b + 1) told → (∀ y, fn11_keep N M 1 (nI b) y = fn11_keep_b24 N (106 + 2 * b) 1 y M) → ∃ (v : Int32) (M1 M2 : am_Mem), fn11_keep N M 1 (nI b) y = some (v, M1) ∧ am_K M1 110 = 12 ∧ fn12_keep N M1 110 (nI b) y = some (v, M2) ∧ Inv M2 := by
    intro b hb hk e
    have kk : am_K M (106 + 2 * b) = 9 := by
      have : b = 0 ∨ b = 1 := by omega
      rcases this with rfl | rfl
      · exact sk106 s
      · exact sk108 s
    rcases hy with rfl | rfl
    · obtain ⟨M1, M2, a1, a2, a3, a4⟩ := kst hN h hb
      exact ⟨1, M1, M2, by rw [e]; exact a1, a2, a3, told, m, D, a4⟩
    · have e1 : 104 + 2 * (b + 1) = 106 + 2 * b := by omega
      rcases hk with ⟨a1, a2⟩ | ⟨a1, a2, w, E, a3, a4⟩
      · rw [e1] at a1
        refine ⟨0, M, am_wI M 110 0 0, ?_, sk110 s, mk_no s hb a2, told, m, D, h'⟩
        rw [e]
        unfold fn11_keep_b24 fn11_keep_b40
        rw [if_neg (by omega), if_neg (by decide), nk_k, kk, a1, nk_dd, if_pos rfl]
      · rw [e1] at a1
        obtain ⟨M1, M2, b1, b2, b3, b4⟩ := kbk hN h hb a1 a2 a3 a4
        exact ⟨1, M1, M2, by rw [e]; exact b1, b2, b3, told, w, E, b4⟩
  by_cases x0 : x = 0
  · subst x0
    refine go 0 (by omega) h.2.2.2.2.2.2.2.2.2.1 (fun y => ?_)
    unfold fn11_keep fn11_keep_b0
    rw [if_pos (show nI 0 = 0 from rfl), nk_k, sk1 s, sr1_9 s, nk_dd]
  · by_cases x1 : x = 1
    · subst x1
      refine go 1 (by omega) h.2.2.2.2.2.2.2.2.2.2 (fun y => ?_)
      unfold fn11_keep fn11_keep_b0
      rw [if_neg (by decide), if_pos (show nI 1 = 1 from rfl), nk_k, sk1 s, sr1_10 s, nk_dd]
    · refine ⟨0, M, am_wI M 110 0 0, ?_, sk110 s, ?_, told, m, D, h'⟩
      · unfold fn11_keep fn11_keep_b0 fn11_keep_b24 fn11_keep_b40
        rw [if_neg x0, if_neg x1, if_pos rfl]
      · unfold fn12_keep fn12_keep_b0 fn12_keep_b28
        rw [nk_k, sk110 s, wi_01, if_neg, nk_bd]
        · rfl
        · intro ⟨a, b⟩
          rw [Int32.le_iff_toInt_le] at a b
          have e0 : (0 : Int32).toInt = 0 := rfl
          have e1 : (1 : Int32).toInt = 1 := rfl
          rw [← Int32.toInt_inj] at x0 x1
          omega
