section
variable {M : am_Mem} {told m : Nat} {D : Nat → Rc}
theorem li_thr {N : Nat} {Mb M2 : am_Mem} (s : Shp M) (hb : InvAt Mb told m D) {x y z : Int32} (hc : fn11_line N M 1 x y z = none) (hx : fnx11_line N M 1 x y z = some ((), Mb)) (hm : fn12_line N (am_new Mb 98 0) 110 x y z = some (0, M2)) (h0 : am_I M2 110 0 = 1) (h2 : InvAt M2 told m D) :
    ∃ (v w : Int32) (M1 M2 M3 : am_Mem), fnL_line N M 1 x y z 141 = some (v, M1) ∧ am_K M1 110 = 12 ∧ fn12_line N M1 110 x y z = some (w, M2) ∧ am_K M2 110 = 12 ∧ fn12_thrown M2 110 = some (v, M3) ∧ (v = 0 → am_J M3 141 0 = w.toInt64) ∧ Inv M3 := by
  have g := inv_98 hb
  refine ⟨1, 0, am_new Mb 98 0, M2, M2, ?_, sk110 (i_shp g), hm, sk110 (i_shp h2), ?_, fun e => absurd e (by decide), told, m, D, h2⟩
  · unfold fnL_line
    rw [hc, hx, nk_k, sk1 s]
    rfl
  · unfold fn12_thrown fn12_thrown_b0
    rw [k_110 h2, nk_ck, h0]
theorem li_ret {N : Nat} {Mb M2 : am_Mem} (s : Shp M) (hb : InvAt Mb told m D) {x y z w : Int32} (hc : fn11_line N M 1 x y z = some (w, Mb)) (hm : fn12_line N (am_wJ Mb 141 0 w.toInt64) 110 x y z = some (w, M2)) (h0 : am_I M2 110 0 = 0) (hj : am_J M2 141 0 = w.toInt64) (h2 : InvAt M2 told m D) :
    ∃ (v w : Int32) (M1 M2 M3 : am_Mem), fnL_line N M 1 x y z 141 = some (v, M1) ∧ am_K M1 110 = 12 ∧ fn12_line N M1 110 x y z = some (w, M2) ∧ am_K M2 110 = 12 ∧ fn12_thrown M2 110 = some (v, M3) ∧ (v = 0 → am_J M3 141 0 = w.toInt64) ∧ Inv M3 := by
  have g := inv_out hb w.toInt64
  have sb := i_shp hb
  refine ⟨0, w, am_wJ Mb 141 0 w.toInt64, M2, M2, ?_, sk110 (i_shp g), hm, sk110 (i_shp h2), ?_, fun _ => hj, told, m, D, h2⟩
  · unfold fnL_line
    rw [hc, nk_k, sk1 s]
    show am_ck _ (am_ck (am_k Mb 141 15) (am_ck (am_in 0 (am_L Mb 141)) _)) = _
    rw [nk_k, sk141 sb, sl141 sb, nk_dd, nk_dd]
    rfl
  · unfold fn12_thrown fn12_thrown_b0
    rw [k_110 h2, nk_ck, h0]
theorem m_li0 {N : Nat} (h : InvAt M told m D) {x y z : Int32} (hr : fn12_line N M 110 x y z = fn12_line_b32 N 110 x y z M) : fn12_line N M 110 x y z = some (0, am_wI M 110 0 1) := by
  rw [hr]
  unfold fn12_line_b32 fn12_line_b33
  rw [if_pos rfl]
  unfold fn12_line_b45 fn12_line_b71 fn12_line_b72
  rw [if_pos rfl, k_110 h, nk_ck, nk_ck, rI_eq, if_pos rfl]
end
def lnC (a : Ln) (z : Int32) : Int32 := if z = 0 then a.1 else if z = 1 then a.2.1 else if z = 2 then a.2.2.1 else a.2.2.2
theorem ok_line {N : Nat} (hN : 100000 ≤ N) : OK_line N Inv := by
  intro M x y z ⟨told, m, D, h⟩
  have hm := i_m h
  have s := i_shp h
  have wi : ∀ M', fn12_within M' z.toInt64 0 3 = some (if 0 ≤ z ∧ z ≤ 3 then 1 else 0, M') := fun M' => wi_lit M' z 0 3
  rcases pk_ix2 x (n := m) (by omega) with hx | ⟨i, hi, rfl⟩
  · have g := inv_98 h
    refine li_thr s h ?_ ?_ (m_li0 g ?_) (rI_eq _ _ _ _) (inv_thr g 1)
    · unfold fn11_line fn11_line_b0 fn11_line_b23
      rw [cf_no h hx]
      rfl
    · unfold fnx11_line fnx11_line_b0 fnx11_line_b23
      rw [cf_no h hx]
      rfl
    · unfold fn12_line fn12_line_b0
      rw [k_110 g, nk_ck, mi_no g hx, nk_bd, if_pos rfl]
  have t := i_til h hi
  have hl := i_len h hi
  rcases good_f (i_good h hi) with ⟨a, b⟩ | ⟨a, geo⟩
  · have g := inv_98 h
    refine li_thr s h ?_ ?_ (m_li0 g ?_) (rI_eq _ _ _ _) (inv_thr g 1)
    · unfold fn11_line fn11_line_b0 fn11_line_b23
      rw [cf_yes h hi, if_neg (tilr_ne t), k_til t, nk_ck, t.2.1.1, a]
      rfl
    · unfold fnx11_line fnx11_line_b0 fnx11_line_b23
      rw [cf_yes h hi, if_neg (tilr_ne t), k_til t, nk_ck, t.2.1.1, a]
      rfl
    · unfold fn12_line fn12_line_b0
      rw [k_110 g, nk_ck, mi_yes g hi, nk_bd, if_neg z_1, k_110 g, nk_ck, mv_fail g hi, nk_bd, a]
      rfl
  obtain ⟨M1, e1, h1, c1, t1⟩ := bd_ok hN h hi
  have s1 := i_shp h1
  have ll := lnS_len hl
  -- the class as far as the table
  have cc : fn11_line N M 1 (nI i) y z = (if y < 0 then none else if y < nI (lnS (D i).2.2.2).length then (if z = 0 then am_ck (am_in y 80) (some (am_I M1 98 y.toNatClampNeg, M1)) else if z = 1 then am_ck (am_in y 80) (some (am_I M1 99 y.toNatClampNeg, M1)) else if z = 2 then am_ck (am_in y 80) (some (am_I M1 100 y.toNatClampNeg, M1)) else if z = 3 then am_ck (am_in y 80) (some (am_I M1 101 y.toNatClampNeg, M1)) else none) else none) := by
    unfold fn11_line fn11_line_b0 fn11_line_b57
    rw [cf_yes h hi, if_neg (tilr_ne t), k_til t, nk_ck, t.2.1.1, a, if_pos rfl, nk_k, sk1 s, nk_dd, sr1_6 s, nk_k, sk97 s, nk_dd, e1, nk_bd]
    simp only [nk_k, sk1 s1, sr1_6 s1, sk97 s1, c1.1, sr97_0 s1, sr97_1 s1, sr97_2 s1, sr97_3 s1, sk98 s1, sk99 s1, sk100 s1, sk101 s1, sl98 s1, sl99 s1, sl100 s1, sl101 s1, eq_self, decide_true, nk_ck]
  have cx : fnx11_line N M 1 (nI i) y z = (if y < 0 then some ((), M1) else if y < nI (lnS (D i).2.2.2).length then (if z = 0 then am_ck (am_in y 80) none else if z = 1 then am_ck (am_in y 80) none else if z = 2 then am_ck (am_in y 80) none else if z = 3 then am_ck (am_in y 80) none else some ((), M1)) else some ((), M1)) := by
    unfold fnx11_line fnx11_line_b0 fnx11_line_b57
    rw [cf_yes h hi, if_neg (tilr_ne t), k_til t, nk_ck, t.2.1.1, a, if_pos rfl, nk_k, sk1 s, nk_dd, sr1_6 s, nk_k, sk97 s, nk_dd, e1, nk_bd]
    simp only [nk_k, sk1 s1, sr1_6 s1, sk97 s1, c1.1, sr97_0 s1, sr97_1 s1, sr97_2 s1, sr97_3 s1, sk98 s1, sk99 s1, sk100 s1, sk101 s1, sl98 s1, sl99 s1, sl100 s1, sl101 s1, eq_self, decide_true, nk_ck]
  -- the reference as far as its table
  have mm : ∀ {M'}, InvAt M' told m D → 0 ≤ z ∧ z ≤ 3 → ∃ M2, Fs mW M' M2 ∧ (∀ i, ¬ i = 47 → am_I M2 110 i = am_I M' 110 i) ∧ LmC M2 (lnS (D i).2.2.2) ∧ InvAt M2 told m D ∧ fn12_line N M' 110 (nI i) y z = fn12_line_b45 N 110 y z 1 M2 := by
    intro M' h' hz
    obtain ⟨M2, e2, f2, d2, c2⟩ := ll_ok hN hi geo (modI_inv h')
    refine ⟨M2, f2, d2, c2, inv_mW h' f2 (fun i a _ => d2 i a), ?_⟩
    unfold fn12_line fn12_line_b0 fn12_line_b33
    rw [k_110 h', nk_ck, mi_yes h' hi, nk_bd, if_neg z_1, k_110 h', nk_ck, mv_fail h' hi, nk_bd, a, if_pos rfl, wi, nk_bd, if_pos hz, if_neg z_1, if_neg z_1, k_110 h', nk_ck, e2, nk_bd]
  have g1 := inv_98 h1
  by_cases hz : ¬ (0 ≤ z ∧ z ≤ 3)
  · have zn : ¬ z = 0 ∧ ¬ z = 1 ∧ ¬ z = 2 ∧ ¬ z = 3 := by
      refine ⟨fun e => hz ?_, fun e => hz ?_, fun e => hz ?_, fun e => hz ?_⟩ <;> subst e <;> decide
    obtain ⟨z0, z1, z2, z3⟩ := zn
    refine li_thr s h1 ?_ ?_ (m_li0 g1 ?_) (rI_eq _ _ _ _) (inv_thr g1 1)
    · rw [cc]
      simp only [z0, z1, z2, z3, if_false]
      split
      · rfl
      · split <;> rfl
    · rw [cx]
      simp only [z0, z1, z2, z3, if_false]
      split
      · rfl
      · split <;> rfl
    · unfold fn12_line fn12_line_b0
      rw [k_110 g1, nk_ck, mi_yes g1 hi, nk_bd, if_neg z_1, k_110 g1, nk_ck, mv_fail g1 hi, nk_bd, a, if_pos rfl, wi, nk_bd, if_neg hz, if_pos rfl]
  have hz := Decidable.not_not.mp hz
  rcases pk_ix2 y (n := (lnS (D i).2.2.2).length) (by omega) with hy | ⟨k, hk, rfl⟩
  · obtain ⟨M2, f2, d2, c2, h2, e2⟩ := mm g1 hz
    have nn : ∀ {α : Type} (p q : Option α), (if y < 0 then p else if y < nI (lnS (D i).2.2.2).length then q else p) = p := by
      intro α p q
      by_cases y0 : y < 0
      · rw [if_pos y0]
      · rw [if_neg y0, if_neg (Int32.not_lt.mpr (hy.resolve_left y0))]
    refine li_thr (M2 := am_wI M2 110 0 1) s h1 ?_ ?_ ?_ (rI_eq _ _ _ _) (inv_thr h2 1)
    · rw [cc, nn]
    · rw [cx, nn]
    · rw [e2]
      unfold fn12_line_b45 fn12_line_b71 fn12_line_b72
      rw [if_neg z_1, k_110 h2, nk_ck, c2.1, wi_no M2 (by omega) hy, nk_bd, if_pos rfl, k_110 h2, nk_ck, nk_ck, rI_eq, if_pos rfl]
  have hn : ∀ {α : Type} (p q : α), (if nI k < 0 then p else if nI k < nI (lnS (D i).2.2.2).length then q else p) = q := by
    intro α p q
    rw [if_neg (nI_pos (by omega)), if_pos (nI_lt hk (by omega))]
  have hin : am_in (nI k) 80 = true := nk_in (by omega) (by decide)
  have hcl : (nI k).toNatClampNeg = k := nI_clamp (by omega)
  have rd := c1.2 k hk
  have b1 : am_I M1 98 k = ((lnS (D i).2.2.2)[k]).1 := congrArg (fun x : Ln => x.1) rd
  have b2 : am_I M1 99 k = ((lnS (D i).2.2.2)[k]).2.1 := congrArg (fun x : Ln => x.2.1) rd
  have b3 : am_I M1 100 k = ((lnS (D i).2.2.2)[k]).2.2.1 := congrArg (fun x : Ln => x.2.2.1) rd
  have b4 : am_I M1 101 k = ((lnS (D i).2.2.2)[k]).2.2.2 := congrArg (fun x : Ln => x.2.2.2) rd
  have z4 : ¬ z = 0 → ¬ z = 1 → ¬ z = 2 → z = 3 := by
    intro q0 q1 q2
    rw [← Int32.toInt_inj] at q0 q1 q2 ⊢
    rw [Int32.le_iff_toInt_le, Int32.le_iff_toInt_le] at hz
    have e0 : (0 : Int32).toInt = 0 := rfl
    have e1 : (1 : Int32).toInt = 1 := rfl
    have e2 : (2 : Int32).toInt = 2 := rfl
    have e3 : (3 : Int32).toInt = 3 := rfl
    omega
  have cv : fn11_line N M 1 (nI i) (nI k) z = some (lnC ((lnS (D i).2.2.2)[k]) z, M1) := by
    rw [cc, hn]
    simp only [hin, nk_ck, hcl, b1, b2, b3, b4]
    unfold lnC
    by_cases q0 : z = 0
    · rw [if_pos q0, if_pos q0]
    · rw [if_neg q0, if_neg q0]
      by_cases q1 : z = 1
      · rw [if_pos q1, if_pos q1]
      · rw [if_neg q1, if_neg q1]
        by_cases q2 : z = 2
        · rw [if_pos q2, if_pos q2]
        · rw [if_neg q2, if_neg q2, if_pos (z4 q0 q1 q2)]
  have go := inv_out h1 (lnC ((lnS (D i).2.2.2)[k]) z).toInt64
  obtain ⟨M2, f2, d2, c2, h2, e2⟩ := mm go hz
  have s2 := i_shp h2
  have rm := c2.2 k hk
  have o : ∀ a, ¬ a = 110 → am_I (am_wI M2 110 0 0) a = am_I M2 a := fun a ha => rI_ne _ _ _ ha
  have m1 : am_I M2 136 k = ((lnS (D i).2.2.2)[k]).1 := congrArg (fun x : Ln => x.1) rm
  have m2 : am_I M2 137 k = ((lnS (D i).2.2.2)[k]).2.1 := congrArg (fun x : Ln => x.2.1) rm
  have m3 : am_I M2 138 k = ((lnS (D i).2.2.2)[k]).2.2.1 := congrArg (fun x : Ln => x.2.2.1) rm
  have m4 : am_I M2 139 k = ((lnS (D i).2.2.2)[k]).2.2.2 := congrArg (fun x : Ln => x.2.2.2) rm
  refine li_ret (M2 := am_wI M2 110 0 0) s h1 cv ?_ (rI_eq _ _ _ _) ?_ (inv_thr h2 0)
  · rw [e2]
    unfold fn12_line_b45 fn12_line_b72 fn12_line_b132
    rw [if_neg z_1, k_110 h2, nk_ck, c2.1, wi_yes M2 (by omega) hk, nk_bd, if_neg z_1, k_110 h2, nk_ck, nk_ck, rI_eq, if_neg (show ¬ (0 : Int32) = 1 from by decide)]
    simp only [sr110_43 s2, sr110_44 s2, sr110_45 s2, sr110_46 s2, nk_k, sk136 s2, sk137 s2, sk138 s2, sk139 s2, sl136 s2, sl137 s2, sl138 s2, sl139 s2, eq_self, decide_true, nk_ck, hin, hcl, o 136 (by decide), o 137 (by decide), o 138 (by decide), o 139 (by decide), m1, m2, m3, m4]
    unfold lnC
    by_cases q0 : z = 0
    · rw [if_pos q0, if_pos q0]
    · rw [if_neg q0, if_neg q0]
      by_cases q1 : z = 1
      · rw [if_pos q1, if_pos q1]
      · rw [if_neg q1, if_neg q1]
        by_cases q2 : z = 2
        · rw [if_pos q2, if_pos q2]
        · rw [if_neg q2, if_neg q2]
  · rw [rJ_wI, fs_J f2 (by decide), rJ_eq]
/-- the first that is so -/
def fstU (p : Nat → Bool) : Nat → Nat → Int32
  | _, 0 => -1
  | j, k + 1 => if p j = true then nI j else fstU p (j + 1) k
theorem fstU_ext {p q : Nat → Bool} : ∀ {k j}, (∀ i, j ≤ i → i < j + k → p i = q i) → fstU p j k = fstU q j k
  | 0, _, _ => rfl
  | k + 1, j, h => by
    unfold fstU
    rw [h j (Nat.le_refl _) (by omega), fstU_ext (k := k) (j := j + 1) (fun i a b => h i (by omega) (by omega))]
def sdC (T : List Ln) (y x : Int32) (i : Nat) : Bool := decide ((T.getD i (0, 0, 0, 0)).1 = y) && (decide (¬ x < (T.getD i (0, 0, 0, 0)).2.1) && decide (¬ (T.getD i (0, 0, 0, 0)).2.2.1 ≤ x))
def sdM (T : List Ln) (y x e : Int32) (i : Nat) : Bool := decide ((T.getD i (0, 0, 0, 0)).1 = y) && (decide (¬ x < (T.getD i (0, 0, 0, 0)).2.1) && decide (¬ (T.getD i (0, 0, 0, 0)).2.2.1 < e))
theorem getD_ln {T : List Ln} {k : Nat} (h : k < T.length) : T.getD k (0, 0, 0, 0) = T[k] := by
  rw [List.getD_eq_getElem?_getD, List.getElem?_eq_getElem h, Option.getD_some]
theorem sd_c {N : Nat} {M : am_Mem} (s : Shp M) {T : List Ln} (c : LcC M T) (hl : T.length ≤ 80) (y x : Int32) : ∀ k j fuel, j + k = T.length → k < fuel → fn2_rowOf_b2 N fuel 97 y x (nI j) M = some (fstU (sdC T y x) j k, M) := by
  intro k
  induction k with
  | zero =>
    intro j fuel hj hf
    obtain ⟨f, rfl⟩ : ∃ f, fuel = f + 1 := ⟨fuel - 1, by omega⟩
    show fn2_rowOf_b2B N (fn2_rowOf_b2 N f) 97 y x (nI j) M = _
    unfold fn2_rowOf_b2B fstU
    rw [nk_k, sk97 s, nk_dd, c.1, if_pos (nI_le (by omega) (by omega))]
  | succ k ih =>
    intro j fuel hj hf
    obtain ⟨f, rfl⟩ : ∃ f, fuel = f + 1 := ⟨fuel - 1, by omega⟩
    have hj' : j < T.length := by omega
    have g := ih (j + 1) f (by omega) (by omega)
    have hin : am_in (nI j) 80 = true := nk_in (by omega) (by decide)
    have hcl : (nI j).toNatClampNeg = j := nI_clamp (by omega)
    have rd := c.2 j hj'
    rw [← getD_ln hj'] at rd
    have b1 : am_I M 98 j = (T.getD j (0, 0, 0, 0)).1 := congrArg (fun x : Ln => x.1) rd
    have b2 : am_I M 99 j = (T.getD j (0, 0, 0, 0)).2.1 := congrArg (fun x : Ln => x.2.1) rd
    have b3 : am_I M 100 j = (T.getD j (0, 0, 0, 0)).2.2.1 := congrArg (fun x : Ln => x.2.2.1) rd
    have hle : ¬ nI T.length ≤ nI j := nI_ge hj' (by omega)
    show fn2_rowOf_b2B N (fn2_rowOf_b2 N f) 97 y x (nI j) M = _
    unfold fn2_rowOf_b2B fn2_rowOf_b42 fstU sdC
    simp only [nk_k, sk97 s, sr97_0 s, sr97_1 s, sr97_2 s, sk98 s, sk99 s, sk100 s, sl98 s, sl99 s, sl100 s, eq_self, decide_true, nk_ck, c.1, hle, if_false, hin, hcl, b1, b2, b3, nI_1, g]
    by_cases q1 : (T.getD j (0, 0, 0, 0)).1 = y
    · rw [if_pos q1, decide_eq_true q1, Bool.true_and]
      by_cases q2 : x < (T.getD j (0, 0, 0, 0)).2.1
      · rw [if_pos q2, decide_eq_false (not_not_intro q2), Bool.false_and, if_neg (by decide)]
        rfl
      · rw [if_neg q2, decide_eq_true q2, Bool.true_and]
        by_cases q3 : (T.getD j (0, 0, 0, 0)).2.2.1 ≤ x
        · rw [if_pos q3, decide_eq_false (not_not_intro q3), if_neg (by decide)]
          rfl
        · rw [if_neg q3, decide_eq_true q3, if_pos rfl]
    · rw [if_neg q1, decide_eq_false q1, Bool.false_and, if_neg (by decide)]
      rfl
theorem sd_m {N : Nat} {M : am_Mem} {m i a : Nat} {D : Nat → Rc} (mi : ModI M m D) (hi : i < m) (ha : a < (D i).2.2.2.length) {T : List Ln} (c : LmC M T) (hl : T.length ≤ 80) (y : Int32) : ∀ k j fuel, j + k = T.length → k < fuel → fn12_side_b53 N fuel 110 (nI i) (nI a) y (nI j) M = some (fstU (sdM T y (qX (D i).2.2.2 a) (qX (D i).2.2.2 a + qS (D i).2.2.2 a)) j k, M) := by
  have s := mi.1
  intro k
  induction k with
  | zero =>
    intro j fuel hj hf
    obtain ⟨f, rfl⟩ : ∃ f, fuel = f + 1 := ⟨fuel - 1, by omega⟩
    show fn12_side_b53B N (fn12_side_b53 N f) 110 (nI i) (nI a) y (nI j) M = _
    unfold fn12_side_b53B fstU
    rw [nk_k, sk110 s, nk_dd, c.1, if_pos (nI_le (by omega) (by omega))]
  | succ k ih =>
    intro j fuel hj hf
    obtain ⟨f, rfl⟩ : ∃ f, fuel = f + 1 := ⟨fuel - 1, by omega⟩
    have hj' : j < T.length := by omega
    have g := ih (j + 1) f (by omega) (by omega)
    have hin : am_in (nI j) 80 = true := nk_in (by omega) (by decide)
    have hcl : (nI j).toNatClampNeg = j := nI_clamp (by omega)
    have rd := c.2 j hj'
    rw [← getD_ln hj'] at rd
    have b1 : am_I M 136 j = (T.getD j (0, 0, 0, 0)).1 := congrArg (fun x : Ln => x.1) rd
    have b2 : am_I M 137 j = (T.getD j (0, 0, 0, 0)).2.1 := congrArg (fun x : Ln => x.2.1) rd
    have b3 : am_I M 138 j = (T.getD j (0, 0, 0, 0)).2.2.1 := congrArg (fun x : Ln => x.2.2.1) rd
    have hle : ¬ nI T.length ≤ nI j := nI_ge hj' (by omega)
    show fn12_side_b53B N (fn12_side_b53 N f) 110 (nI i) (nI a) y (nI j) M = _
    unfold fn12_side_b53B fn12_side_b123 fstU sdM
    simp only [nk_k, sk110 s, sr110_43 s, sr110_44 s, sr110_45 s, sk136 s, sk137 s, sk138 s, sl136 s, sl137 s, sl138 s, eq_self, decide_true, nk_ck, c.1, hle, if_false, hin, hcl, b1, b2, b3, nI_1, g, mw_X mi hi ha, mw_S mi hi ha, nk_bd]
    by_cases q1 : (T.getD j (0, 0, 0, 0)).1 = y
    · rw [if_pos q1, decide_eq_true q1, Bool.true_and]
      by_cases q2 : qX (D i).2.2.2 a < (T.getD j (0, 0, 0, 0)).2.1
      · rw [if_pos q2, decide_eq_false (not_not_intro q2), Bool.false_and, if_neg (by decide)]
        rfl
      · rw [if_neg q2, decide_eq_true q2, Bool.true_and]
        by_cases q3 : (T.getD j (0, 0, 0, 0)).2.2.1 < qX (D i).2.2.2 a + qS (D i).2.2.2 a
        · rw [if_pos q3, decide_eq_false (not_not_intro q3), if_neg (by decide)]
          rfl
        · rw [if_neg q3, decide_eq_true q3, if_pos rfl]
    · rw [if_neg q1, decide_eq_false q1, Bool.false_and, if_neg (by decide)]
      rfl
theorem sd_same {w h : Int} {L : List Sq} (g : Geo w h L) {a : Nat} (ha : a < L.length) {y : Int32} (hy : y = qY L a ∨ y = qY L a + qS L a) {i : Nat} (hi : i < (lnS L).length) : sdC (lnS L) y (qX L a) i = sdM (lnS L) y (qX L a) (qX L a + qS L a) i := by
  obtain ⟨e, c⟩ := lnS_ok g
  obtain ⟨a1, a2, a3, a4, a5, a6, a7⟩ := geo_at g ha
  have ht : (lnS L)[i] ∈ lnS L := List.getElem_mem hi
  have tl := c.2 _ ht
  unfold sdC sdM
  rw [getD_ln hi]
  by_cases q1 : ((lnS L)[i]).1 = y
  · by_cases q2 : qX L a < ((lnS L)[i]).2.1
    · rw [decide_eq_false (not_not_intro q2), Bool.false_and, Bool.false_and]
    · congr 2
      rw [decide_eq_decide, Int32.le_iff_toInt_le, Int32.lt_iff_toInt_lt, a6]
      rw [Int32.lt_iff_toInt_lt] at q2
      constructor
      · intro hx hr
        -- the stretch at the line's end is covered by the side
        have hmem : ∃ n ∈ lnSides L, lD n = y.toInt ∧ lL n = (qX L a).toInt ∧ lR n = (qX L a).toInt + (qS L a).toInt := by
          have hq : L[a] ∈ L := List.getElem_mem ha
          have eX : (L[a]).1 = qX L a := by unfold qX; rw [q_getD ha]
          have eY : (L[a]).2.1 = qY L a := by unfold qY; rw [q_getD ha]
          have eS : (L[a]).2.2 = qS L a := by unfold qS; rw [q_getD ha]
          rcases hy with hy | hy
          · refine ⟨lnTop L[a], List.mem_append.mpr (Or.inl (List.mem_map.mpr ⟨_, hq, rfl⟩)), ?_, ?_, ?_⟩
            · show (L[a]).2.1.toInt = _; rw [eY, hy]
            · show (L[a]).1.toInt = _; rw [eX]
            · show ((L[a]).1 + (L[a]).2.2).toInt = _; rw [eX, eS, a6]
          · refine ⟨lnLow L[a], List.mem_append.mpr (Or.inr (List.mem_map.mpr ⟨_, hq, rfl⟩)), ?_, ?_, ?_⟩
            · show ((L[a]).2.1 + (L[a]).2.2).toInt = _; rw [eY, eS, hy]
            · show (L[a]).1.toInt = _; rw [eX]
            · show ((L[a]).1 + (L[a]).2.2).toInt = _; rw [eX, eS, a6]
        obtain ⟨n, hn, n1, n2, n3⟩ := hmem
        have hd : lD (lnS L)[i] = y.toInt := by unfold lD; rw [q1]
        have hx' : ¬ lR (lnS L)[i] ≤ (qX L a).toInt := hx
        have hr' : lR (lnS L)[i] < (qX L a).toInt + (qS L a).toInt := hr
        have hl' : ¬ (qX L a).toInt < lL (lnS L)[i] := q2
        obtain ⟨t2, h2, p1, p2, p3⟩ := (e.1 y.toInt (lR (lnS L)[i])).mp ⟨n, hn, n1, by omega, by omega⟩
        have tl2 := c.2 t2 h2
        rcases sep_or c.1 _ ht t2 h2 with k | k | k
        · rw [← k] at p3; omega
        · unfold sep at k; omega
        · unfold sep at k; omega
      · intro hr hx
        omega
  · rw [decide_eq_false q1, Bool.false_and, Bool.false_and]
