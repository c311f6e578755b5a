/-- what the reference sees of the rectangles -/
def ModI (M : am_Mem) (m : Nat) (D : Nat → Rc) : Prop := Shp M ∧ m ≤ 12 ∧ am_I M 110 18 = nI m ∧ ∀ i, i < m → RowR M 117 (124 * i) (D i) ∧ Good (D i)
section
variable {M : am_Mem} {told m : Nat} {D : Nat → Rc}
theorem modI_inv (h : InvAt M told m D) : ModI M m D := ⟨i_shp h, i_m h, i_18 h, fun i hi => ⟨i_row h hi, i_good h hi⟩⟩
theorem modI_put {M' : am_Mem} {u : Nat} {q : Rc} (h : InvAt M told m D) (p : PutQ M M' m u q) : ModI M' m D := by
  have s := i_shp h
  have hn := s.1
  obtain ⟨⟨p0, p1⟩, p2, p3, p4, p5⟩ := p
  refine ⟨⟨by omega, fun a ha => ?_, fun q hq => ?_⟩, i_m h, ?_, fun i hi => ⟨?_, i_good h hi⟩⟩
  · rw [(p1 a (by omega)).1, (p1 a (by omega)).2.1]
    exact s.2.1 a ha
  · have := sh_big q hq
    rw [(p1 q.1 (by omega)).2.2.1 (by omega)]
    exact s.2.2 q hq
  · rw [((p1 110 (by omega)).2.2.2 (by decide)).1]
    exact i_18 h
  · refine rowr_fr (i_len h hi) (fun k hk => ?_) (i_row h hi)
    rw [((p1 117 (by omega)).2.2.2 (by decide)).1]
theorem modI_fs {W : List Nat} {M' : am_Mem} (f : Fs W M M') (h117 : 117 ∉ W) (h18 : am_I M' 110 18 = am_I M 110 18) (h : ModI M m D) : ModI M' m D :=
  ⟨fs_shp f h.1, h.2.1, by rw [h18]; exact h.2.2.1, fun i hi => ⟨rowr_fr (good_len (h.2.2.2 i hi).2) (fun k _ => by rw [fs_I f h117]) (h.2.2.2 i hi).1, (h.2.2.2 i hi).2⟩⟩
theorem modI_thr (h : ModI M m D) (v : Int32) : ModI (am_wI M 110 0 v) m D :=
  modI_fs (W := [110]) (fs_wI _ _ _ (by decide)) (by decide) (rI_ix _ _ _ (by decide)) h
theorem kw_110 (h : ModI M m D) : am_k M 110 12 = true := lw_kt (sk110 h.1)
theorem mw_no (h : ModI M m D) {x : Int32} (hx : x < 0 ∨ nI m ≤ x) : fn12_isRect M 110 x = some (0, M) := by
  have hm := h.2.1
  unfold fn12_isRect fn12_isRect_b0
  rw [nk_k, sk110 h.1, h.2.2.1, wi_no M (by omega) hx]
  rfl
theorem mw_yes (h : ModI M m D) {i : Nat} (hi : i < m) : fn12_isRect M 110 (nI i) = some (1, M) := by
  have hm := h.2.1
  unfold fn12_isRect fn12_isRect_b0
  rw [nk_k, sk110 h.1, h.2.2.1, wi_yes M (by omega) hi]
  rfl
theorem mw_n (h : ModI M m D) {i : Nat} (hi : i < m) : fn12_of M 110 (nI i) 0 = some (nI (D i).2.2.2.length, M) := by
  have hm := h.2.1
  rw [mo_of h.1 (k := 0) (x := 0) (by omega) (by omega) rfl, Nat.add_zero, (h.2.2.2 i hi).1.1]
theorem mw_w (h : ModI M m D) {i : Nat} (hi : i < m) : fn12_of M 110 (nI i) 1 = some ((D i).2.1, M) := by
  have hm := h.2.1
  rw [mo_of h.1 (k := 1) (x := 1) (by omega) (by omega) rfl, (h.2.2.2 i hi).1.2.1]
theorem mw_h (h : ModI M m D) {i : Nat} (hi : i < m) : fn12_of M 110 (nI i) 2 = some ((D i).2.2.1, M) := by
  have hm := h.2.1
  rw [mo_of h.1 (k := 2) (x := 2) (by omega) (by omega) rfl, (h.2.2.2 i hi).1.2.2.1]
theorem mw_X (h : ModI M m D) {i k : Nat} (hi : i < m) (hk : k < (D i).2.2.2.length) : fn12_of M 110 (nI i) (4 + nI k) = some (qX (D i).2.2.2 k, M) := by
  have hm := h.2.1
  have hl := good_len (h.2.2.2 i hi).2
  rw [mo_of h.1 (k := 4 + k) (by omega) (by omega) (lit_add 4 k), (h.2.2.2 i hi).1.2.2.2.2.1 k hk]
theorem mw_Y (h : ModI M m D) {i k : Nat} (hi : i < m) (hk : k < (D i).2.2.2.length) : fn12_of M 110 (nI i) (44 + nI k) = some (qY (D i).2.2.2 k, M) := by
  have hm := h.2.1
  have hl := good_len (h.2.2.2 i hi).2
  rw [mo_of h.1 (k := 44 + k) (by omega) (by omega) (lit_add 44 k), (h.2.2.2 i hi).1.2.2.2.2.2.1 k hk]
theorem mw_S (h : ModI M m D) {i k : Nat} (hi : i < m) (hk : k < (D i).2.2.2.length) : fn12_of M 110 (nI i) (84 + nI k) = some (qS (D i).2.2.2 k, M) := by
  have hm := h.2.1
  have hl := good_len (h.2.2.2 i hi).2
  rw [mo_of h.1 (k := 84 + k) (by omega) (by omega) (lit_add 84 k), (h.2.2.2 i hi).1.2.2.2.2.2.2 k hk]
theorem mw_fail (h : ModI M m D) {i : Nat} (hi : i < m) : fn12_doesFail M 110 (nI i) = some ((D i).1, M) := by
  have hm := h.2.1
  unfold fn12_doesFail fn12_doesFail_b0 fn12_doesFail_b15
  rw [nk_k, sk110 h.1, mo_of h.1 (k := 3) (x := 3) (by omega) (by omega) rfl, (h.2.2.2 i hi).1.2.2.2.1]
  rcases good_01 (h.2.2.2 i hi).2 with e | e <;> rw [e] <;> rfl
theorem mw_can_no (h : ModI M m D) {x : Int32} (hx : x < 0 ∨ nI m ≤ x) : fn12_canMake M 110 x = some (0, M) := by
  unfold fn12_canMake fn12_canMake_b0 fn12_canMake_b29 fn12_canMake_b30
  rw [kw_110 h, nk_ck, mw_no h hx, nk_bd, if_pos rfl]
  rfl
theorem mw_can_no2 (h : ModI M m D) {i : Nat} (hi : i < m) (hf : (D i).1 = 1 ∨ m = 12) : fn12_canMake M 110 (nI i) = some (0, M) := by
  unfold fn12_canMake fn12_canMake_b0 fn12_canMake_b29 fn12_canMake_b30
  rw [kw_110 h, nk_ck, mw_yes h hi, nk_bd, if_neg z_1, kw_110 h, nk_ck, mw_fail h hi, nk_bd]
  rcases good_01 (h.2.2.2 i hi).2 with e | e
  · have hm : m = 12 := by
      rcases hf with hf | hf
      · rw [e] at hf; exact absurd hf (by decide)
      · exact hf
    rw [if_pos e, kw_110 h, nk_ck, h.2.2.1, hm]
    rfl
  · rw [if_neg (by rw [e]; decide)]
    rfl
theorem mw_can (h : ModI M m D) {i : Nat} (hi : i < m) (hf : (D i).1 = 0) (hm : m < 12) : fn12_canMake M 110 (nI i) = some (1, M) := by
  unfold fn12_canMake fn12_canMake_b0 fn12_canMake_b29 fn12_canMake_b30
  rw [kw_110 h, nk_ck, mw_yes h hi, nk_bd, if_neg z_1, kw_110 h, nk_ck, mw_fail h hi, nk_bd, if_pos hf, kw_110 h, nk_ck, h.2.2.1, if_neg (show ¬ (12 : Int32) ≤ nI m from nI_ge (b := 12) hm (by decide))]
  rfl
theorem cu_no (h : InvAt M told m D) {x : Int32} (hx : x < 0 ∨ nI m ≤ x) : fn11_usable M 1 x = some (0, M) := by
  unfold fn11_usable fn11_usable_b0 fn11_usable_b32 fn11_usable_b37
  rw [cf_no h hx, if_pos rfl]
theorem cu_no2 (h : InvAt M told m D) {i : Nat} (hi : i < m) (hf : (D i).1 = 1 ∨ m = 12) : fn11_usable M 1 (nI i) = some (0, M) := by
  have t := i_til h hi
  have s := i_shp h
  unfold fn11_usable fn11_usable_b0 fn11_usable_b32 fn11_usable_b37
  rw [cf_yes h hi, if_neg (tilr_ne t), k_til t, nk_ck, t.2.1.1]
  rcases good_01 (i_good h hi) with e | e
  · have hm : m = 12 := by
      rcases hf with hf | hf
      · rw [e] at hf; exact absurd hf (by decide)
      · exact hf
    rw [if_pos e, sr1_8 s, nk_k, nk_k, sk1 s, sk104 s, i_104 h, hm]
    rfl
  · rw [if_neg (by rw [e]; decide)]
theorem cu_yes (h : InvAt M told m D) {i : Nat} (hi : i < m) (hf : (D i).1 = 0) (hm : m < 12) : fn11_usable M 1 (nI i) = some (am_R M 105 i, M) := by
  have t := i_til h hi
  have s := i_shp h
  unfold fn11_usable fn11_usable_b0 fn11_usable_b32 fn11_usable_b37
  rw [cf_yes h hi, if_neg (tilr_ne t), k_til t, nk_ck, t.2.1.1, if_pos hf, sr1_8 s, nk_k, nk_k, sk1 s, sk104 s, i_104 h, if_pos (show nI m < 12 from nI_lt (b := 12) hm (by decide))]
  rfl
end
theorem tk_loop {N : Nat} {i : Nat} (hi : i < 12) : ∀ k j fuel M, j + k = 124 → k < fuel → Shp M → ∃ M', fn12_takes_b2 N fuel 110 (nI i) (nI j) M = some ((), M') ∧ Fs [140] M M' ∧ (∀ a, j ≤ a → a < 124 → am_I M' 140 a = am_I M 117 (124 * i + a)) ∧ ∀ a, a < j → am_I M' 140 a = am_I M 140 a := by
  intro k
  induction k with
  | zero =>
    intro j fuel M hj hf s
    obtain ⟨g, rfl⟩ : ∃ g, fuel = g + 1 := ⟨fuel - 1, by omega⟩
    have : j = 124 := by omega
    subst this
    refine ⟨M, ?_, fs_refl _ _, fun i a b => by omega, fun i _ => rfl⟩
    show fn12_takes_b2B N (fn12_takes_b2 N g) 110 (nI i) (nI 124) M = _
    unfold fn12_takes_b2B
    rw [if_pos (show (124 : Int32) ≤ nI 124 from by decide)]
  | succ k ih =>
    intro j fuel M hj hf s
    obtain ⟨g, rfl⟩ : ∃ g, fuel = g + 1 := ⟨fuel - 1, by omega⟩
    have f0 : Fs [140] M (am_wI M 140 j (am_I M 117 (124 * i + j))) := fs_wI _ _ _ List.mem_cons_self
    obtain ⟨M', e, f1, c1, c2⟩ := ih (j + 1) g (am_wI M 140 j (am_I M 117 (124 * i + j))) (by omega) (by omega) (fs_shp f0 s)
    refine ⟨M', ?_, fs_trans f0 f1, fun a h1 h2 => ?_, fun a h1 => ?_⟩
    · rw [← e]
      have e1 : (124 : Int32) * nI i + nI j = nI (124 * i + j) := by rw [show (124 : Int32) = nI 124 from rfl, pk_mul, nI_add]
      have i1 : am_in (nI j) 124 = true := nk_in (by omega) (by decide)
      have i2 : am_in (nI (124 * i + j)) 1488 = true := nk_in (by omega) (by decide)
      have l1 : (nI j).toNatClampNeg = j := nI_clamp (by omega)
      have l2 : (nI (124 * i + j)).toNatClampNeg = 124 * i + j := nI_clamp (by omega)
      have hle : ¬ (124 : Int32) ≤ nI j := nI_ge (b := 124) (by omega) (by decide)
      show fn12_takes_b2B N (fn12_takes_b2 N g) 110 (nI i) (nI j) M = _
      unfold fn12_takes_b2B
      simp only [hle, if_false, nk_k, sk110 s, sr110_48 s, sr110_17 s, sk140 s, sl140 s, sk117 s, sl117 s, eq_self, decide_true, nk_ck, e1, i1, i2, l1, l2, nI_1]
    · by_cases e2 : a = j
      · subst e2
        rw [c2 _ (by omega), rI_eq]
      · rw [c1 a (by omega) h2, rI_ne _ _ _ (by decide)]
    · rw [c2 a (by omega), rI_ix _ _ _ (by omega)]
def sqF (L : List Sq) (k : Nat) : Sq := L.getD k (0, 0, 0)
theorem sqF_of (L : List Sq) : ofF (sqF L) L.length = L := by
  apply List.ext_getElem
  · rw [ofF_len]
  · intro k h1 h2
    have e := ofF_get (sqF L) (n := L.length) (k := k) h2
    rw [List.getD_eq_getElem?_getD, List.getElem?_eq_getElem h1, Option.getD_some] at e
    rw [e]
    unfold sqF
    rw [q_getD h2]
theorem tk_ok {N : Nat} (hN : 100000 ≤ N) {M : am_Mem} {m i : Nat} {D : Nat → Rc} (h : ModI M m D) (hi : i < m) (hf : (D i).1 = 0) : ∃ M', fn12_takes N M 110 (nI i) = some ((), M') ∧ Fs [140] M M' ∧ RoC M' (D i).2.2.2.length (D i).2.1 (D i).2.2.1 (sqF (D i).2.2.2) := by
  have hm := h.2.1
  have hl := good_len (h.2.2.2 i hi).2
  obtain ⟨M', e, f, c, _⟩ := tk_loop (N := N) (i := i) (by omega) 124 0 N M (by omega) (by omega) h.1
  obtain ⟨r1, r2, r3, r4, r5, r6, r7⟩ := (h.2.2.2 i hi).1
  refine ⟨M', e, f, ?_, ?_, ?_, ?_, fun k hk => ⟨?_, ?_, ?_⟩⟩
  · rw [c 0 (by omega) (by omega)]; exact r1
  · rw [c 1 (by omega) (by omega)]; exact r2
  · rw [c 2 (by omega) (by omega)]; exact r3
  · rw [c 3 (by omega) (by omega), r4]; exact hf
  · rw [c _ (by omega) (by omega)]; exact r5 k hk
  · rw [c _ (by omega) (by omega)]; exact r6 k hk
  · rw [c _ (by omega) (by omega)]; exact r7 k hk
/-- all of the row times a number -/
theorem grw_loop {N : Nat} {n : Nat} {w h x : Int32} {f : Nat → Sq} (hn : n ≤ 40) : ∀ k j fuel M, j + k = n → k < fuel → Shp M → RoC M n w h (fun i => if i < j then ((f i).1 * x, (f i).2.1 * x, (f i).2.2 * x) else f i) → ∃ M', fn12_grows_b22 N fuel 110 x (nI j) M = some ((), M') ∧ Fs [140] M M' ∧ RoC M' n w h (fun i => ((f i).1 * x, (f i).2.1 * x, (f i).2.2 * x)) := by
  intro k
  induction k with
  | zero =>
    intro j fuel M hj hf s c
    obtain ⟨g, rfl⟩ : ∃ g, fuel = g + 1 := ⟨fuel - 1, by omega⟩
    have : j = n := by omega
    subst this
    refine ⟨M, ?_, fs_refl _ _, c.1, c.2.1, c.2.2.1, c.2.2.2.1, fun k hk => ?_⟩
    · show fn12_grows_b22B N (fn12_grows_b22 N g) 110 x (nI j) M = _
      unfold fn12_grows_b22B
      rw [nk_k, sk110 s, nk_dd, sr110_48 s, nk_k, sk140 s, nk_dd, sl140 s, show am_in 0 124 = true from rfl, nk_ck, show ((0 : Int32).toNatClampNeg) = 0 from rfl, c.1, if_pos (nI_le (by omega) (by omega))]
    · have := c.2.2.2.2 k hk
      simp only [hk, if_true] at this
      exact this
  | succ k ih =>
    intro j fuel M hj hf s c
    obtain ⟨g, rfl⟩ : ∃ g, fuel = g + 1 := ⟨fuel - 1, by omega⟩
    have hjn : j < n := by omega
    obtain ⟨c1, c2, c3, c4, c5⟩ := c
    have b := c5 j hjn
    have hjj : ¬ j < j := Nat.lt_irrefl j
    simp only [hjj, if_false] at b
    obtain ⟨b1, b2, b3⟩ := b
    have m140 : (140 : Nat) ∈ [140] := List.mem_cons_self
    have f0 : Fs [140] M (am_wI (am_wI (am_wI M 140 (4 + j) ((f j).1 * x)) 140 (44 + j) ((f j).2.1 * x)) 140 (84 + j) ((f j).2.2 * x)) := fs_trans (fs_trans (fs_wI _ _ _ m140) (fs_wI _ _ _ m140)) (fs_wI _ _ _ m140)
    obtain ⟨M', e, f1, cc⟩ := ih (j + 1) g _ (by omega) (by omega) (fs_shp f0 s) (by
      refine ⟨?_, ?_, ?_, ?_, fun i hi => ?_⟩
      · simp (disch := omega) only [rI_ix, c1]
      · simp (disch := omega) only [rI_ix, c2]
      · simp (disch := omega) only [rI_ix, c3]
      · simp (disch := omega) only [rI_ix, c4]
      · by_cases e2 : i = j
        · subst e2
          have h9 : i < i + 1 := by omega
          simp (disch := omega) only [h9, if_true, rI_ix, rI_eq, and_self]
        · have := c5 i hi
          by_cases e3 : i < j
          · simp only [e3, if_true] at this
            have h9 : i < j + 1 := by omega
            obtain ⟨d1, d2, d3⟩ := this
            simp (disch := omega) only [h9, if_true, rI_ix, d1, d2, d3, and_self]
          · simp only [e3, if_false] at this
            have h9 : ¬ i < j + 1 := by omega
            obtain ⟨d1, d2, d3⟩ := this
            simp (disch := omega) only [h9, if_false, rI_ix, d1, d2, d3, and_self])
    refine ⟨M', ?_, fs_trans f0 f1, cc⟩
    rw [← e]
    have e1 := lit_add 4 j
    have e2 := lit_add 44 j
    have e3 := lit_add 84 j
    have i1 : am_in (nI (4 + j)) 124 = true := nk_in (by omega) (by decide)
    have i2 : am_in (nI (44 + j)) 124 = true := nk_in (by omega) (by decide)
    have i3 : am_in (nI (84 + j)) 124 = true := nk_in (by omega) (by decide)
    have i0 : am_in (0 : Int32) 124 = true := rfl
    have l0 : (0 : Int32).toNatClampNeg = 0 := rfl
    have l1 : (nI (4 + j)).toNatClampNeg = 4 + j := nI_clamp (by omega)
    have l2 : (nI (44 + j)).toNatClampNeg = 44 + j := nI_clamp (by omega)
    have l3 : (nI (84 + j)).toNatClampNeg = 84 + j := nI_clamp (by omega)
    have hle : ¬ nI n ≤ nI j := nI_ge hjn (by omega)
    show fn12_grows_b22B N (fn12_grows_b22 N g) 110 x (nI j) M = _
    unfold fn12_grows_b22B
    simp (disch := omega) only [nk_k, sk110 s, sr110_48 s, sk140 s, sl140 s, eq_self, decide_true, nk_ck, i0, l0, c1, hle, if_false, e1, e2, e3, i1, i2, i3, l1, l2, l3, rI_ix, b1, b2, b3, nI_1]
theorem grw_ok {N : Nat} (hN : 100000 ≤ N) {M : am_Mem} {n : Nat} {w h : Int32} (x : Int32) {f : Nat → Sq} (s : Shp M) (c : RoC M n w h f) (hn : n ≤ 40) : ∃ M', fn12_grows N M 110 x = some ((), M') ∧ Fs [140] M M' ∧ RoC M' n (w * x) (h * x) (fun i => ((f i).1 * x, (f i).2.1 * x, (f i).2.2 * x)) := by
  obtain ⟨c1, c2, c3, c4, c5⟩ := c
  have m140 : (140 : Nat) ∈ [140] := List.mem_cons_self
  have f0 : Fs [140] M (am_wI (am_wI M 140 1 (w * x)) 140 2 (h * x)) := fs_trans (fs_wI _ _ _ m140) (fs_wI _ _ _ m140)
  obtain ⟨M', e, f1, cc⟩ := grw_loop (N := N) (x := x) (w := w * x) (h := h * x) (f := f) hn n 0 N (am_wI (am_wI M 140 1 (w * x)) 140 2 (h * x)) (by omega) (by omega) (fs_shp f0 s) (by
    refine ⟨?_, ?_, ?_, ?_, fun i hi => ?_⟩
    · simp (disch := omega) only [rI_ix, c1]
    · simp (disch := omega) only [rI_ix, rI_eq]
    · simp (disch := omega) only [rI_eq]
    · simp (disch := omega) only [rI_ix, c4]
    · obtain ⟨d1, d2, d3⟩ := c5 i hi
      have h9 : ¬ i < 0 := Nat.not_lt_zero i
      simp (disch := omega) only [h9, if_false, rI_ix, d1, d2, d3, and_self])
  refine ⟨M', ?_, fs_trans f0 f1, cc⟩
  rw [← e]
  unfold fn12_grows fn12_grows_b0
  have i1 : am_in (1 : Int32) 124 = true := rfl
  have i2 : am_in (2 : Int32) 124 = true := rfl
  have l1 : (1 : Int32).toNatClampNeg = 1 := rfl
  have l2 : (2 : Int32).toNatClampNeg = 2 := rfl
  simp (disch := omega) only [nk_k, sk110 s, sr110_48 s, sk140 s, sl140 s, eq_self, decide_true, nk_ck, i1, i2, l1, l2, rI_ix, c2, c3]
  rfl
