def tnX (τ : Nat) (w : Int32) (q : Sq) : Int32 := if τ < 4 then q.1 else w - (q.1 + q.2.2)
def tnM (τ : Nat) (w : Int32) (q : Sq) : Int32 := if τ < 4 then w - (q.1 + q.2.2) else q.1
def tnB (h : Int32) (q : Sq) : Int32 := h - (q.2.1 + q.2.2)
/-- a square turned -/
def tnQ (τ : Nat) (w h : Int32) (q : Sq) : Sq := if τ % 4 = 0 then (tnX τ w q, q.2.1, q.2.2) else if τ % 4 = 1 then (tnB h q, tnX τ w q, q.2.2) else if τ % 4 = 2 then (tnM τ w q, tnB h q, q.2.2) else (q.2.1, tnM τ w q, q.2.2)
def dvQ (c : Int32) (q : Sq) : Sq := (q.1 / c, q.2.1 / c, q.2.2 / c)
theorem and3 {τ : Nat} (h : τ < 8) : nI τ &&& 3 = nI (τ % 4) := pk_andN (n := τ) (m := 3) (by omega) 2 rfl
theorem and1 {τ : Nat} (h : τ < 8) : nI τ &&& 1 = nI (τ % 2) := pk_andN (n := τ) (m := 1) (by omega) 1 rfl
theorem tt_body {N : Nat} {K : Nat → Nat → Int32 → Int32 → Int32 → am_Mem → Option (Unit × am_Mem)} {M M1 : am_Mem} {d t τ j : Nat} {q : Rc} {c : Int32} (tq : TilR M t q) (hl : q.2.2.2.length ≤ 40) (hj : j < q.2.2.2.length) (hτ : τ < 8) (hc : ¬ c = 0) (hd : am_K M d = 0)
    (e : fn0_add M d (dvQ c (tnQ τ q.2.1 q.2.2.1 (sqF q.2.2.2 j))).1 (dvQ c (tnQ τ q.2.1 q.2.2.1 (sqF q.2.2.2 j))).2.1 (dvQ c (tnQ τ q.2.1 q.2.2.1 (sqF q.2.2.2 j))).2.2 = some ((), M1)) :
    fn0_takeTurned_b70B N K d t (nI τ) c (nI j) M = K d t (nI τ) c (nI (j + 1)) M1 := by
  have hr := c_right tq hl hj
  have hb := c_bottom tq hl hj
  obtain ⟨tK, ⟨tf, t4, t5, t6⟩, ⟨_, _, k7, l7⟩, ⟨_, _, k8, l8⟩, ⟨_, _, k9, l9⟩, x7, x8, x9⟩ := tq
  have hin : am_in (nI j) q.2.2.2.length = true := nk_in hj (by omega)
  have hcl : (nI j).toNatClampNeg = j := nI_clamp (by omega)
  have hle : ¬ nI q.2.2.2.length ≤ nI j := nI_ge hj (by omega)
  have ec : decide (¬ c = 0) = true := decide_eq_true hc
  have eX : (sqF q.2.2.2 j).1 = qX q.2.2.2 j := rfl
  have eY : (sqF q.2.2.2 j).2.1 = qY q.2.2.2 j := rfl
  have eS : (sqF q.2.2.2 j).2.2 = qS q.2.2.2 j := rfl
  unfold fn0_takeTurned_b70B
  rw [nk_k, tK.2.2, nk_dd, t4, if_neg hle, hr, nk_bd]
  unfold fn0_takeTurned_b92
  rw [nk_k, tK.2.2, nk_dd, hb, nk_bd]
  unfold dvQ tnQ at e
  by_cases h4 : τ < 4
  · have h4' : nI τ < 4 := nI_lt (b := 4) h4 (by decide)
    have eM : tnM τ q.2.1 (sqF q.2.2.2 j) = q.2.1 - (qX q.2.2.2 j + qS q.2.2.2 j) := if_pos h4
    have eX2 : tnX τ q.2.1 (sqF q.2.2.2 j) = qX q.2.2.2 j := if_pos h4
    have eB : tnB q.2.2.1 (sqF q.2.2.2 j) = q.2.2.1 - (qY q.2.2.2 j + qS q.2.2.2 j) := rfl
    rw [eM, eX2, eB, eY, eS] at e
    unfold fn0_takeTurned_b105 fn0_takeTurned_b122 fn0_takeTurned_b124 fn0_takeTurned_b141 fn0_takeTurned_b152 fn0_takeTurned_b163 fn0_takeTurned_b257
    simp only [h4', if_true, nk_k, tK.2.2, k7, k8, k9, l7, l8, l9, hin, hcl, eq_self, decide_true, nk_ck, ec, t5, t6, x7 j hj, x8 j hj, x9 j hj, and3 hτ, hd, nI_1]
    by_cases e0 : τ % 4 = 0
    · rw [if_pos e0] at e
      rw [if_pos (show nI (τ % 4) = 0 by rw [e0]; rfl), e, nk_bd]
    · rw [if_neg e0] at e
      rw [if_neg (nI_ne0 (by omega) (by omega))]
      by_cases e1 : τ % 4 = 1
      · rw [if_pos e1] at e
        rw [if_pos (show nI (τ % 4) = 1 by rw [e1]; rfl), e, nk_bd]
      · rw [if_neg e1] at e
        rw [if_neg (show ¬ nI (τ % 4) = 1 from fun x => e1 ((nI_eq (b := 1) (by omega) (by decide)).mp x))]
        by_cases e2 : τ % 4 = 2
        · rw [if_pos e2] at e
          rw [if_pos (show nI (τ % 4) = 2 by rw [e2]; rfl), e, nk_bd]
        · rw [if_neg e2] at e
          rw [if_neg (show ¬ nI (τ % 4) = 2 from fun x => e2 ((nI_eq (b := 2) (by omega) (by decide)).mp x)), e, nk_bd]
  · have h4' : ¬ nI τ < 4 := nI_nlt (b := 4) (by omega) (by omega)
    have eM : tnM τ q.2.1 (sqF q.2.2.2 j) = qX q.2.2.2 j := if_neg h4
    have eX2 : tnX τ q.2.1 (sqF q.2.2.2 j) = q.2.1 - (qX q.2.2.2 j + qS q.2.2.2 j) := if_neg h4
    have eB : tnB q.2.2.1 (sqF q.2.2.2 j) = q.2.2.1 - (qY q.2.2.2 j + qS q.2.2.2 j) := rfl
    rw [eM, eX2, eB, eY, eS] at e
    unfold fn0_takeTurned_b105 fn0_takeTurned_b122 fn0_takeTurned_b124 fn0_takeTurned_b141 fn0_takeTurned_b152 fn0_takeTurned_b163 fn0_takeTurned_b257
    simp only [h4', if_false, nk_k, tK.2.2, k7, k8, k9, l7, l8, l9, hin, hcl, eq_self, decide_true, nk_ck, ec, t5, t6, x7 j hj, x8 j hj, x9 j hj, and3 hτ, hd, nI_1]
    by_cases e0 : τ % 4 = 0
    · rw [if_pos e0] at e
      rw [if_pos (show nI (τ % 4) = 0 by rw [e0]; rfl), e, nk_bd]
    · rw [if_neg e0] at e
      rw [if_neg (nI_ne0 (by omega) (by omega))]
      by_cases e1 : τ % 4 = 1
      · rw [if_pos e1] at e
        rw [if_pos (show nI (τ % 4) = 1 by rw [e1]; rfl), e, nk_bd]
      · rw [if_neg e1] at e
        rw [if_neg (show ¬ nI (τ % 4) = 1 from fun x => e1 ((nI_eq (b := 1) (by omega) (by decide)).mp x))]
        by_cases e2 : τ % 4 = 2
        · rw [if_pos e2] at e
          rw [if_pos (show nI (τ % 4) = 2 by rw [e2]; rfl), e, nk_bd]
        · rw [if_neg e2] at e
          rw [if_neg (show ¬ nI (τ % 4) = 2 from fun x => e2 ((nI_eq (b := 2) (by omega) (by decide)).mp x)), e, nk_bd]
def ttF (τ : Nat) (c : Int32) (q : Rc) (k : Nat) : Sq := dvQ c (tnQ τ q.2.1 q.2.2.1 (sqF q.2.2.2 k))
def ttW (τ : Nat) (q : Rc) : Int32 := if τ % 2 = 1 then q.2.2.1 else q.2.1
def ttH (τ : Nat) (q : Rc) : Int32 := if τ % 2 = 1 then q.2.1 else q.2.2.1
theorem tt_loop {N : Nat} (hN : 100000 ≤ N) {d t τ : Nat} {q : Rc} {c w h : Int32} (hd : d + 3 ≤ 141) (hl : q.2.2.2.length ≤ 40) (hτ : τ < 8) (hc : ¬ c = 0) :
    ∀ k j fuel M, j + k = q.2.2.2.length → k < fuel → TilR M t q → DrT M d → DrC M d j w h (ttF τ c q) → ∃ M', fn0_takeTurned_b70 N fuel d t (nI τ) c (nI j) M = some ((), M') ∧ Fs (dW d) M M' ∧ DrC M' d q.2.2.2.length w h (sor q.2.2.2.length (ttF τ c q)) := by
  intro k
  induction k with
  | zero =>
    intro j fuel M hj hf tq dt dc
    obtain ⟨g, rfl⟩ : ∃ g, fuel = g + 1 := ⟨fuel - 1, by omega⟩
    have : j = q.2.2.2.length := by omega
    subst this
    obtain ⟨M', e, f1, c1⟩ := dr_sort hN hl dt dc
    refine ⟨M', ?_, f1, c1⟩
    show fn0_takeTurned_b70B N (fn0_takeTurned_b70 N g) d t (nI τ) c (nI _) M = _
    unfold fn0_takeTurned_b70B
    rw [k_til tq, nk_ck, tq.2.1.2.1, if_pos (nI_le (by omega) (by omega)), nk_k, dt.1, nk_dd, e, nk_bd]
  | succ k ih =>
    intro j fuel M hj hf tq dt dc
    obtain ⟨g, rfl⟩ : ∃ g, fuel = g + 1 := ⟨fuel - 1, by omega⟩
    have hj' : j < q.2.2.2.length := by omega
    obtain ⟨M1, e1, f1, c1⟩ := dr_add dt dc (by omega) (x := (ttF τ c q j).1) (y := (ttF τ c q j).2.1) (s := (ttF τ c q j).2.2) rfl
    obtain ⟨M2, e2, f2, c2⟩ := ih (j + 1) g M1 (by omega) (by omega) (tilr_dyn (fs_dyn f1 (dW_le hd)) tq) (drt_fs f1 dt) c1
    refine ⟨M2, ?_, fs_trans f1 f2, c2⟩
    show fn0_takeTurned_b70B N (fn0_takeTurned_b70 N g) d t (nI τ) c (nI j) M = _
    rw [tt_body tq hl hj' hτ hc dt.1 e1]
    exact e2
theorem tt_ok {N : Nat} (hN : 100000 ≤ N) {d t τ : Nat} {q : Rc} {c : Int32} {M : am_Mem} (hd : d + 3 ≤ 141) (hl : q.2.2.2.length ≤ 40) (hτ : τ < 8) (hc : ¬ c = 0) (tq : TilR M t q) (dt : DrT M d) :
    ∃ M', fn0_takeTurned N M d t (nI τ) c = some ((), M') ∧ Fs (dW d) M M' ∧ DrC M' d q.2.2.2.length (ttW τ q / c) (ttH τ q / c) (sor q.2.2.2.length (ttF τ c q)) := by
  obtain ⟨M1, e1, f1, c1⟩ := dr_begin dt (ttW τ q / c) (ttH τ q / c) (ttF τ c q)
  obtain ⟨M2, e2, f2, c2⟩ := tt_loop hN hd hl hτ hc q.2.2.2.length 0 N M1 (by omega) (by omega) (tilr_dyn (fs_dyn f1 (dW_le hd)) tq) (drt_fs f1 dt) c1
  refine ⟨M2, ?_, fs_trans f1 f2, c2⟩
  have ec : decide (¬ c = 0) = true := decide_eq_true hc
  unfold fn0_takeTurned fn0_takeTurned_b0 fn0_takeTurned_b17 fn0_takeTurned_b35 fn0_takeTurned_b37 fn0_takeTurned_b53 fn0_takeTurned_b55
  rw [if_neg hc, and1 hτ]
  unfold ttW ttH at e1
  by_cases h1 : τ % 2 = 1
  · rw [if_pos h1, if_pos h1] at e1
    rw [if_pos (show nI (τ % 2) = 1 by rw [h1]; rfl), if_neg z_1, k_til tq, nk_ck, if_neg z_1, nk_ck, ec, nk_ck, nk_ck, tq.2.1.2.2.1, tq.2.1.2.2.2, nk_k, dt.1, nk_dd, e1, nk_bd]
    exact e2
  · rw [if_neg h1, if_neg h1] at e1
    rw [if_neg (show ¬ nI (τ % 2) = 1 from fun x => h1 ((nI_eq (b := 1) (by omega) (by decide)).mp x)), if_pos rfl, k_til tq, nk_ck, if_pos rfl, nk_ck, ec, nk_ck, nk_ck, tq.2.1.2.2.1, tq.2.1.2.2.2, nk_k, dt.1, nk_dd, e1, nk_bd]
    exact e2
/-- the first j of them changed -/
def mix (T : Sq → Sq) (f : Nat → Sq) (j i : Nat) : Sq := if i < j then T (f i) else f i
theorem mix_0 (T : Sq → Sq) (f : Nat → Sq) : mix T f 0 = f := by
  funext i
  exact if_neg (Nat.not_lt_zero i)
theorem mix_at (T : Sq → Sq) (f : Nat → Sq) (j : Nat) : mix T f j j = f j := if_neg (Nat.lt_irrefl j)
theorem mix_succ (T : Sq → Sq) (f : Nat → Sq) (j : Nat) : mix T f (j + 1) = upF (mix T f j) j (T (f j)) := by
  funext i
  unfold mix upF
  by_cases h : i = j
  · subst h
    rw [if_pos (Nat.lt_succ_self i), if_pos rfl]
  · rw [if_neg h]
    by_cases h1 : i < j
    · simp only [h1, if_true]; rw [if_pos (by omega)]
    · simp only [h1, if_false]; rw [if_neg (by omega)]
theorem mix_all (T : Sq → Sq) (f : Nat → Sq) {n k : Nat} (h : k < n) : mix T f n k = T (f k) := if_pos h
theorem roc_set {M : am_Mem} {n j : Nat} {w h : Int32} {f : Nat → Sq} (c : RoC M n w h f) (hj : j < n) (hn : n ≤ 40) {M' : am_Mem} {q : Sq} (h0 : ∀ i, ¬ i = 4 + j → ¬ i = 44 + j → ¬ i = 84 + j → am_I M' 140 i = am_I M 140 i) (h1 : am_I M' 140 (4 + j) = q.1) (h2 : am_I M' 140 (44 + j) = q.2.1) (h3 : am_I M' 140 (84 + j) = q.2.2) : RoC M' n w h (upF f j q) := by
  obtain ⟨c1, c2, c3, c4, c5⟩ := c
  refine ⟨(h0 0 (by omega) (by omega) (by omega)).trans c1, (h0 1 (by omega) (by omega) (by omega)).trans c2, (h0 2 (by omega) (by omega) (by omega)).trans c3, (h0 3 (by omega) (by omega) (by omega)).trans c4, fun k hk => ?_⟩
  by_cases e : k = j
  · subst e
    rw [upF_eq]
    exact ⟨h1, h2, h3⟩
  · rw [upF_ne _ _ e]
    obtain ⟨d1, d2, d3⟩ := c5 k hk
    exact ⟨(h0 _ (by omega) (by omega) (by omega)).trans d1, (h0 _ (by omega) (by omega) (by omega)).trans d2, (h0 _ (by omega) (by omega) (by omega)).trans d3⟩
def mrQ (w : Int32) (q : Sq) : Sq := (w - q.1 - q.2.2, q.2.1, q.2.2)
def qtQ (h : Int32) (q : Sq) : Sq := (h - q.2.1 - q.2.2, q.1, q.2.2)
theorem mr_loop {N : Nat} {n : Nat} {w h x : Int32} {f : Nat → Sq} (hn : n ≤ 40) : ∀ k j fuel M, j + k = n → k < fuel → Shp M → RoC M n w h (mix (mrQ w) f j) → ∃ M', fn12_turns_b7 N fuel 110 x (nI j) M = fn12_turns_b56 N 110 x M' ∧ Fs [140] M M' ∧ RoC M' n w h (mix (mrQ w) f n) := by
  intro k
  induction k with
  | zero =>
    intro j fuel M hj hf s c
    obtain ⟨g, rfl⟩ : ∃ g, fuel = g + 1 := ⟨fuel - 1, by omega⟩
    have : j = n := by omega
    subst this
    refine ⟨M, ?_, fs_refl _ _, c⟩
    show fn12_turns_b7B N (fn12_turns_b7 N g) 110 x (nI j) M = _
    unfold fn12_turns_b7B
    rw [nk_k, sk110 s, nk_dd, sr110_48 s, nk_k, sk140 s, nk_dd, sl140 s, show am_in 0 124 = true from rfl, nk_ck, show ((0 : Int32).toNatClampNeg) = 0 from rfl, c.1, if_pos (nI_le (by omega) (by omega))]
  | succ k ih =>
    intro j fuel M hj hf s c
    obtain ⟨g, rfl⟩ : ∃ g, fuel = g + 1 := ⟨fuel - 1, by omega⟩
    have hjn : j < n := by omega
    have b := c.2.2.2.2 j hjn
    rw [mix_at] at b
    obtain ⟨b1, b2, b3⟩ := b
    have f0 : Fs [140] M (am_wI M 140 (4 + j) (w - (f j).1 - (f j).2.2)) := fs_wI _ _ _ List.mem_cons_self
    obtain ⟨M', e, f1, cc⟩ := ih (j + 1) g _ (by omega) (by omega) (fs_shp f0 s) (by
      rw [mix_succ]
      refine roc_set c hjn hn (fun i h1 h2 h3 => rI_ix _ _ _ h1) (rI_eq _ _ _ _) ?_ ?_
      · rw [rI_ix _ _ _ (by omega)]; exact b2
      · rw [rI_ix _ _ _ (by omega)]; exact b3)
    refine ⟨M', ?_, fs_trans f0 f1, cc⟩
    rw [← e]
    have e1 := lit_add 4 j
    have e3 := lit_add 84 j
    have i1 : am_in (nI (4 + j)) 124 = true := nk_in (by omega) (by decide)
    have i3 : am_in (nI (84 + j)) 124 = true := nk_in (by omega) (by decide)
    have j0 : am_in (0 : Int32) 124 = true := rfl
    have j1 : am_in (1 : Int32) 124 = true := rfl
    have l0 : (0 : Int32).toNatClampNeg = 0 := rfl
    have k1 : (1 : Int32).toNatClampNeg = 1 := rfl
    have l1 : (nI (4 + j)).toNatClampNeg = 4 + j := nI_clamp (by omega)
    have l3 : (nI (84 + j)).toNatClampNeg = 84 + j := nI_clamp (by omega)
    have hle : ¬ nI n ≤ nI j := nI_ge hjn (by omega)
    show fn12_turns_b7B N (fn12_turns_b7 N g) 110 x (nI j) M = _
    unfold fn12_turns_b7B
    simp only [nk_k, sk110 s, sr110_48 s, sk140 s, sl140 s, eq_self, decide_true, nk_ck, j0, j1, k1, l0, c.1, c.2.1, hle, if_false, e1, e3, i1, i3, l1, l3, b1, b3, nI_1]
theorem qt_loop {N : Nat} {n : Nat} {w h : Int32} {f : Nat → Sq} (hn : n ≤ 40) : ∀ k j fuel M, j + k = n → k < fuel → Shp M → RoC M n w h (mix (qtQ h) f j) → ∃ M', fn12_quarter_b9 N fuel 110 h (nI j) M = some ((), M') ∧ Fs [140] M M' ∧ RoC M' n h w (mix (qtQ h) f n) := by
  intro k
  induction k with
  | zero =>
    intro j fuel M hj hf s c
    obtain ⟨g, rfl⟩ : ∃ g, fuel = g + 1 := ⟨fuel - 1, by omega⟩
    have : j = n := by omega
    subst this
    have m : (140 : Nat) ∈ [140] := List.mem_cons_self
    have hle : nI j ≤ nI j := nI_le (Nat.le_refl _) (by omega)
    refine ⟨am_wI (am_wI M 140 2 w) 140 1 h, ?_, fs_trans (fs_wI _ _ _ m) (fs_wI _ _ _ m), ?_⟩
    · show fn12_quarter_b9B N (fn12_quarter_b9 N g) 110 h (nI j) M = _
      have j0 : am_in (0 : Int32) 124 = true := rfl
      have j1 : am_in (1 : Int32) 124 = true := rfl
      have j2 : am_in (2 : Int32) 124 = true := rfl
      have k0 : (0 : Int32).toNatClampNeg = 0 := rfl
      have k1 : (1 : Int32).toNatClampNeg = 1 := rfl
      have k2 : (2 : Int32).toNatClampNeg = 2 := rfl
      unfold fn12_quarter_b9B
      simp only [nk_k, sk110 s, sr110_48 s, sk140 s, sl140 s, eq_self, decide_true, nk_ck, j0, j1, j2, k0, k1, k2, c.1, c.2.1, hle, if_true]
    · obtain ⟨c1, c2, c3, c4, c5⟩ := c
      refine ⟨?_, rI_eq _ _ _ _, ?_, ?_, fun i hi => ?_⟩
      · simp (disch := omega) only [rI_ix, c1]
      · simp (disch := omega) only [rI_ix, rI_eq]
      · simp (disch := omega) only [rI_ix, c4]
      · obtain ⟨d1, d2, d3⟩ := c5 i hi
        simp (disch := omega) only [rI_ix, d1, d2, d3, and_self]
  | succ k ih =>
    intro j fuel M hj hf s c
    obtain ⟨g, rfl⟩ : ∃ g, fuel = g + 1 := ⟨fuel - 1, by omega⟩
    have hjn : j < n := by omega
    have b := c.2.2.2.2 j hjn
    rw [mix_at] at b
    obtain ⟨b1, b2, b3⟩ := b
    have m : (140 : Nat) ∈ [140] := List.mem_cons_self
    have f0 : Fs [140] M (am_wI (am_wI M 140 (4 + j) (h - (f j).2.1 - (f j).2.2)) 140 (44 + j) (f j).1) := fs_trans (fs_wI _ _ _ m) (fs_wI _ _ _ m)
    obtain ⟨M', e, f1, cc⟩ := ih (j + 1) g _ (by omega) (by omega) (fs_shp f0 s) (by
      rw [mix_succ]
      refine roc_set c hjn hn (fun i h1 h2 h3 => by rw [rI_ix _ _ _ h2, rI_ix _ _ _ h1]) ?_ (rI_eq _ _ _ _) ?_
      · rw [rI_ix _ _ _ (by omega), rI_eq]; rfl
      · rw [rI_ix _ _ _ (by omega), rI_ix _ _ _ (by omega)]; exact b3)
    refine ⟨M', ?_, fs_trans f0 f1, cc⟩
    rw [← e]
    have e1 := lit_add 4 j
    have e2 := lit_add 44 j
    have e3 := lit_add 84 j
    have i1 : am_in (nI (4 + j)) 124 = true := nk_in (by omega) (by decide)
    have i2 : am_in (nI (44 + j)) 124 = true := nk_in (by omega) (by decide)
    have i3 : am_in (nI (84 + j)) 124 = true := nk_in (by omega) (by decide)
    have j0 : am_in (0 : Int32) 124 = true := rfl
    have l0 : (0 : Int32).toNatClampNeg = 0 := rfl
    have l1 : (nI (4 + j)).toNatClampNeg = 4 + j := nI_clamp (by omega)
    have l2 : (nI (44 + j)).toNatClampNeg = 44 + j := nI_clamp (by omega)
    have l3 : (nI (84 + j)).toNatClampNeg = 84 + j := nI_clamp (by omega)
    have hle : ¬ nI n ≤ nI j := nI_ge hjn (by omega)
    show fn12_quarter_b9B N (fn12_quarter_b9 N g) 110 h (nI j) M = _
    unfold fn12_quarter_b9B fn12_quarter_b28
    simp only [nk_k, sk110 s, sr110_48 s, sk140 s, sl140 s, eq_self, decide_true, nk_ck, j0, l0, c.1, hle, if_false, e1, e2, e3, i1, i2, i3, l1, l2, l3, b1, b2, b3, nI_1]
theorem qt_ok {N : Nat} (hN : 100000 ≤ N) {n : Nat} {w h : Int32} {f : Nat → Sq} (hn : n ≤ 40) {M : am_Mem} (s : Shp M) (c : RoC M n w h f) : ∃ M', fn12_quarter N M 110 = some ((), M') ∧ Fs [140] M M' ∧ RoC M' n h w (fun k => qtQ h (f k)) := by
  obtain ⟨M', e, f1, c1⟩ := qt_loop (N := N) (f := f) hn n 0 N M (by omega) (by omega) s (by rw [mix_0]; exact c)
  refine ⟨M', ?_, f1, roc_ext c1 (fun k hk => mix_all _ _ hk)⟩
  unfold fn12_quarter fn12_quarter_b0 fn12_quarter_b7
  rw [nk_k, sk110 s, nk_dd, sr110_48 s, nk_k, sk140 s, nk_dd, sl140 s, show am_in 2 124 = true from rfl, nk_ck, show ((2 : Int32).toNatClampNeg) = 2 from rfl, c.2.2.1]
  exact e
/-- turned by quarters -/
def qtN (h w : Int32) : Nat → Sq → Sq
  | 0, q => q
  | k + 1, q => qtN w h k (qtQ h q)
def qsW (w h : Int32) (k : Nat) : Int32 := if k % 2 = 1 then h else w
theorem qt_n {N : Nat} (hN : 100000 ≤ N) {n : Nat} (hn : n ≤ 40) : ∀ (k fuel : Nat) (w h : Int32) (f : Nat → Sq) (M : am_Mem), k < fuel → k < 100 → Shp M → RoC M n w h f → ∃ M', fn12_turns_b60 N fuel 110 (nI k) M = some ((), M') ∧ Fs [140] M M' ∧ RoC M' n (qsW w h k) (qsW h w k) (fun i => qtN h w k (f i)) := by
  intro k
  induction k with
  | zero =>
    intro fuel w h f M hf h1 s c
    obtain ⟨g, rfl⟩ : ∃ g, fuel = g + 1 := ⟨fuel - 1, by omega⟩
    refine ⟨M, ?_, fs_refl _ _, c⟩
    show fn12_turns_b60B N (fn12_turns_b60 N g) 110 (nI 0) M = _
    unfold fn12_turns_b60B
    rw [if_pos (show nI 0 ≤ 0 from by decide)]
  | succ k ih =>
    intro fuel w h f M hf h1 s c
    obtain ⟨g, rfl⟩ : ∃ g, fuel = g + 1 := ⟨fuel - 1, by omega⟩
    obtain ⟨M1, e1, f1, c1⟩ := qt_ok hN hn s c
    obtain ⟨M2, e2, f2, c2⟩ := ih g h w _ M1 (by omega) (by omega) (fs_shp f1 s) c1
    refine ⟨M2, ?_, fs_trans f1 f2, ?_⟩
    · show fn12_turns_b60B N (fn12_turns_b60 N g) 110 (nI (k + 1)) M = _
      unfold fn12_turns_b60B
      rw [if_neg (nI_nle (by omega) (by omega)), nk_k, sk110 s, nk_dd, e1, nk_bd, pk_m1]
      exact e2
    · have ea : qsW h w k = qsW w h (k + 1) := by
        unfold qsW
        by_cases h2 : k % 2 = 1
        · rw [if_pos h2, if_neg (by omega)]
        · rw [if_neg h2, if_pos (by omega)]
      have eb : qsW w h k = qsW h w (k + 1) := by
        unfold qsW
        by_cases h2 : k % 2 = 1
        · rw [if_pos h2, if_neg (by omega)]
        · rw [if_neg h2, if_pos (by omega)]
      rw [← ea, ← eb]
      exact c2
theorem sub_a (a b c : Int32) : a - b - c = a - (b + c) := Int32.sub_sub a b c
theorem sub_b (a b c : Int32) : a - (a - b - c) - c = b := by grind
theorem sub_c (a b c : Int32) : a - (a - (b + c)) - c = b := by grind
theorem tn_eq {τ : Nat} (hτ : τ < 8) (w h : Int32) (q : Sq) : qtN h w (τ % 4) (if τ < 4 then q else mrQ w q) = tnQ τ w h q := by
  obtain ⟨x, y, s⟩ := q
  match τ, hτ with
  | 0, _ => rfl
  | 1, _ => show (h - y - s, x, s) = (h - (y + s), x, s); rw [sub_a]
  | 2, _ => show (w - x - s, h - y - s, s) = (w - (x + s), h - (y + s), s); rw [sub_a, sub_a]
  | 3, _ => show (h - (h - y - s) - s, w - x - s, s) = (y, w - (x + s), s); rw [sub_b, sub_a]
  | 4, _ => show (w - x - s, y, s) = (w - (x + s), y, s); rw [sub_a]
  | 5, _ => show (h - y - s, w - x - s, s) = (h - (y + s), w - (x + s), s); rw [sub_a, sub_a]
  | 6, _ => show (w - (w - x - s) - s, h - y - s, s) = (x, h - (y + s), s); rw [sub_b, sub_a]
  | 7, _ => show (h - (h - y - s) - s, w - (w - x - s) - s, s) = (y, x, s); rw [sub_b, sub_b]
