theorem eq_loop {N : Nat} {M : am_Mem} {d e n : Nat} {w h w' h' : Int32} {f g : Nat → Sq} (t : DrT M d) (t' : DrT M e) (c : DrC M d n w h f) (c' : DrC M e n w' h' g) (hn : n ≤ 40) : ∀ k j fuel, j + k = n → k < fuel → ∃ v, fn0_equalTo_b37 N fuel d e (nI j) M = some (v, M) ∧ ((v = 1 ∧ ∀ i, j ≤ i → i < n → f i = g i) ∨ (v = 0 ∧ ¬ ∀ i, j ≤ i → i < n → f i = g i)) := by
  intro k
  induction k with
  | zero =>
    intro j fuel hj hf
    obtain ⟨q, rfl⟩ : ∃ q, fuel = q + 1 := ⟨fuel - 1, by omega⟩
    refine ⟨1, ?_, Or.inl ⟨rfl, fun i h1 h2 => by omega⟩⟩
    show fn0_equalTo_b37B N (fn0_equalTo_b37 N q) d e (nI j) M = _
    unfold fn0_equalTo_b37B
    rw [nk_k, t.1, nk_dd, c.1, if_pos (nI_le (by omega) (by omega))]
  | succ k ih =>
    intro j fuel hj hf
    obtain ⟨q, rfl⟩ : ∃ q, fuel = q + 1 := ⟨fuel - 1, by omega⟩
    have hj' : j < n := by omega
    obtain ⟨v, e1, e2⟩ := ih (j + 1) q (by omega) (by omega)
    obtain ⟨a1, a2, a3⟩ := c.2.2.2 j hj'
    obtain ⟨b1, b2, b3⟩ := c'.2.2.2 j hj'
    obtain ⟨t1, t2, t3, t4, t5, t6, t7, t8, t9, t10⟩ := t
    obtain ⟨s1, s2, s3, s4, s5, s6, s7, s8, s9, s10⟩ := t'
    have hin : am_in (nI j) 40 = true := nk_in (by omega) (by decide)
    have hcl : (nI j).toNatClampNeg = j := nI_clamp (by omega)
    have hle : ¬ nI n ≤ nI j := nI_ge hj' (by omega)
    show ∃ v, fn0_equalTo_b37B N (fn0_equalTo_b37 N q) d e (nI j) M = _ ∧ _
    unfold fn0_equalTo_b37B fn0_equalTo_b90
    simp only [nk_k, t1, t2, t3, t4, t5, t6, t7, t8, t9, t10, s1, s2, s3, s4, s5, s6, s7, s8, s9, s10, eq_self, decide_true, nk_ck, c.1, hle, if_false, hin, hcl, a1, a2, a3, b1, b2, b3, nI_1, e1]
    have no : ¬ f j = g j → ∃ v, (some ((0 : Int32), M) : Option (Int32 × am_Mem)) = some (v, M) ∧ ((v = 1 ∧ ∀ i, j ≤ i → i < n → f i = g i) ∨ (v = 0 ∧ ¬ ∀ i, j ≤ i → i < n → f i = g i)) :=
      fun hne => ⟨0, rfl, Or.inr ⟨rfl, fun x => hne (x j (Nat.le_refl _) hj')⟩⟩
    by_cases q1 : (f j).1 = (g j).1
    · rw [if_pos q1]
      by_cases q2 : (f j).2.1 = (g j).2.1
      · rw [if_pos q2]
        by_cases q3 : (f j).2.2 = (g j).2.2
        · rw [if_pos q3]
          have ej : f j = g j := Prod.ext q1 (Prod.ext q2 q3)
          refine ⟨v, rfl, ?_⟩
          rcases e2 with ⟨x, y⟩ | ⟨x, y⟩
          · refine Or.inl ⟨x, fun i h1 h2 => ?_⟩
            by_cases e : i = j
            · rw [e]; exact ej
            · exact y i (by omega) h2
          · exact Or.inr ⟨x, fun z => y (fun i h1 h2 => z i (by omega) h2)⟩
        · rw [if_neg q3]; exact no (fun e => q3 (by rw [e]))
      · rw [if_neg q2]; exact no (fun e => q2 (by rw [e]))
    · rw [if_neg q1]; exact no (fun e => q1 (by rw [e]))
theorem eq_ok {N : Nat} (hN : 100000 ≤ N) {M : am_Mem} {d e n : Nat} {w h w' h' : Int32} {f g : Nat → Sq} (t : DrT M d) (t' : DrT M e) (c : DrC M d n w h f) (c' : DrC M e n w' h' g) (hn : n ≤ 40) : ∃ v, fn0_equalTo N M d e = some (v, M) ∧ ((v = 1 ∧ w = w' ∧ h = h' ∧ ∀ i, i < n → f i = g i) ∨ (v = 0 ∧ ¬ (w = w' ∧ h = h' ∧ ∀ i, i < n → f i = g i))) := by
  obtain ⟨v, e1, e2⟩ := eq_loop (N := N) t t' c c' hn n 0 N (by omega) (by omega)
  unfold fn0_equalTo fn0_equalTo_b0 fn0_equalTo_b33
  rw [nk_k, t.1, nk_dd, nk_k, t'.1, nk_dd, c.1, c'.1, if_pos rfl, c.2.1, c'.2.1, c.2.2.1, c'.2.2.1]
  by_cases q1 : w = w'
  · rw [if_pos q1]
    by_cases q2 : h = h'
    · rw [if_pos q2]
      refine ⟨v, e1, ?_⟩
      rcases e2 with ⟨x, y⟩ | ⟨x, y⟩
      · exact Or.inl ⟨x, q1, q2, fun i hi => y i (by omega) hi⟩
      · exact Or.inr ⟨x, fun z => y (fun i _ hi => z.2.2 i hi)⟩
    · rw [if_neg q2]
      exact ⟨0, rfl, Or.inr ⟨rfl, fun z => q2 z.2.1⟩⟩
  · rw [if_neg q1]
    exact ⟨0, rfl, Or.inr ⟨rfl, fun z => q1 z.1⟩⟩
theorem d93_le : ∀ a ∈ dW 93, a ≤ 141 := dW_le (by decide)
theorem al_c {N : Nat} (hN : 100000 ≤ N) {t2 : Nat} {q1 q2 : Rc} (hl : q2.2.2.2.length ≤ 40) (hn : q1.2.2.2.length = q2.2.2.2.length) (hz : ¬ nI (gcL q2.2.2.2) = 0) :
    ∀ c τ fuel M, τ + c = 8 → c < fuel → Shp M → TilR M t2 q2 → DrC M 89 q1.2.2.2.length (ttW 0 q1 / nI (gcL q1.2.2.2)) (ttH 0 q1 / nI (gcL q1.2.2.2)) (sor q1.2.2.2.length (ttF 0 (nI (gcL q1.2.2.2)) q1)) →
    ∃ v M', fn11_alike_b86 N fuel 1 t2 (nI (gcL q2.2.2.2)) (nI τ) M = some (v, M') ∧ Fs (dW 93) M M' ∧ ((v = 1 ∧ ∃ σ, τ ≤ σ ∧ σ < 8 ∧ CA q1 q2 σ) ∨ (v = 0 ∧ ¬ ∃ σ, τ ≤ σ ∧ σ < 8 ∧ CA q1 q2 σ)) := by
  intro c
  induction c with
  | zero =>
    intro τ fuel M hτ hf s tq dc
    obtain ⟨g, rfl⟩ : ∃ g, fuel = g + 1 := ⟨fuel - 1, by omega⟩
    have : τ = 8 := by omega
    subst this
    refine ⟨0, M, ?_, fs_refl _ _, Or.inr ⟨rfl, fun ⟨σ, h1, h2, _⟩ => by omega⟩⟩
    show fn11_alike_b86B N (fn11_alike_b86 N g) 1 t2 (nI (gcL q2.2.2.2)) (nI 8) M = _
    unfold fn11_alike_b86B
    rw [if_pos (show (8 : Int32) ≤ nI 8 from by decide)]
  | succ c ih =>
    intro τ fuel M hτ hf s tq dc
    obtain ⟨g, rfl⟩ : ∃ g, fuel = g + 1 := ⟨fuel - 1, by omega⟩
    have h8 : τ < 8 := by omega
    obtain ⟨M1, e1, f1, c1⟩ := tt_ok hN (d := 93) (τ := τ) (by decide) hl h8 hz tq (drt_93 s)
    rw [← hn] at c1
    have s1 := fs_shp f1 s
    have t1 := tilr_dyn (fs_dyn f1 d93_le) tq
    have dc1 : DrC M1 89 q1.2.2.2.length (ttW 0 q1 / nI (gcL q1.2.2.2)) (ttH 0 q1 / nI (gcL q1.2.2.2)) (sor q1.2.2.2.length (ttF 0 (nI (gcL q1.2.2.2)) q1)) := by
      obtain ⟨x1, x2, x3, x4⟩ := dc
      have I : ∀ a, a ∉ dW 93 → am_I M1 a = am_I M a := fun a ha => fs_I f1 ha
      refine ⟨by rw [I 89 (by decide)]; exact x1, by rw [I 89 (by decide)]; exact x2, by rw [I 89 (by decide)]; exact x3, fun k hk => ?_⟩
      rw [I (89 + 1) (by decide), I (89 + 2) (by decide), I (89 + 3) (by decide)]
      exact x4 k hk
    obtain ⟨v, e2, e3⟩ := eq_ok hN (drt_89 s1) (drt_93 s1) dc1 c1 (by omega)
    have hle : ¬ (8 : Int32) ≤ nI τ := nI_ge (b := 8) h8 (by decide)
    have st : fn11_alike_b86 N (g + 1) 1 t2 (nI (gcL q2.2.2.2)) (nI τ) M = (if v = 0 then fn11_alike_b86 N g 1 t2 (nI (gcL q2.2.2.2)) (nI (τ + 1)) M1 else some (1, M1)) := by
      show fn11_alike_b86B N (fn11_alike_b86 N g) 1 t2 (nI (gcL q2.2.2.2)) (nI τ) M = _
      unfold fn11_alike_b86B
      rw [if_neg hle, nk_k, sk1 s, nk_dd, sr1_5 s, nk_k, sk93 s, nk_dd, e1, nk_bd, nk_k, sk1 s1, nk_dd, sr1_4 s1, nk_k, sk89 s1, nk_dd, sr1_5 s1, e2, nk_bd, nI_1]
    rw [st]
    rcases e3 with ⟨x, y⟩ | ⟨x, y⟩
    · rw [x, if_neg z_1]
      exact ⟨1, M1, rfl, f1, Or.inl ⟨rfl, τ, Nat.le_refl _, h8, y⟩⟩
    · rw [x, if_pos rfl]
      obtain ⟨v', M', e4, f4, r4⟩ := ih (τ + 1) g M1 (by omega) (by omega) s1 t1 dc1
      refine ⟨v', M', e4, fs_trans f1 f4, ?_⟩
      rcases r4 with ⟨p, σ, h1, h2, h3⟩ | ⟨p, r⟩
      · exact Or.inl ⟨p, σ, by omega, h2, h3⟩
      · refine Or.inr ⟨p, fun ⟨σ, h1, h2, h3⟩ => ?_⟩
        by_cases e : σ = τ
        · subst e; exact y h3
        · exact r ⟨σ, by omega, h2, h3⟩
theorem i64_eq {a b c d : Int32} : a.toInt64 * b.toInt64 = c.toInt64 * d.toInt64 ↔ a.toInt * b.toInt = c.toInt * d.toInt := by
  rw [← Int64.toInt_inj, i64_mulT, i64_mulT]
section
variable {m o : Nat} {D : Nat → Rc} {n : Nat} {w h : Int32} {f : Nat → Sq}
theorem th_loop {N : Nat} {M : am_Mem} (mi : ModI M m D) (ho : o < m) (c : RoC M n w h f) (hn : n ≤ 40) {k : Nat} (hk : k < n) : ∀ r j fuel, j + r = (D o).2.2.2.length → r < fuel → ∃ v, fn12_isThere_b2 N fuel 110 (nI o) (nI k) (nI j) M = some (v, M) ∧ ((v = 1 ∧ ∃ i, j ≤ i ∧ i < (D o).2.2.2.length ∧ (f k).1.toInt * (D o).2.1.toInt = (qX (D o).2.2.2 i).toInt * w.toInt ∧ (f k).2.1.toInt * (D o).2.1.toInt = (qY (D o).2.2.2 i).toInt * w.toInt ∧ (f k).2.2.toInt * (D o).2.1.toInt = (qS (D o).2.2.2 i).toInt * w.toInt) ∨ (v = 0 ∧ ¬ ∃ i, j ≤ i ∧ i < (D o).2.2.2.length ∧ (f k).1.toInt * (D o).2.1.toInt = (qX (D o).2.2.2 i).toInt * w.toInt ∧ (f k).2.1.toInt * (D o).2.1.toInt = (qY (D o).2.2.2 i).toInt * w.toInt ∧ (f k).2.2.toInt * (D o).2.1.toInt = (qS (D o).2.2.2 i).toInt * w.toInt)) := by
  have hl := good_len (mi.2.2.2 o ho).2
  have s := mi.1
  intro r
  induction r with
  | zero =>
    intro j fuel hj hf
    obtain ⟨g, rfl⟩ : ∃ g, fuel = g + 1 := ⟨fuel - 1, by omega⟩
    refine ⟨0, ?_, Or.inr ⟨rfl, fun ⟨i, h1, h2, _⟩ => by omega⟩⟩
    show fn12_isThere_b2B N (fn12_isThere_b2 N g) 110 (nI o) (nI k) (nI j) M = _
    unfold fn12_isThere_b2B
    rw [kw_110 mi, nk_ck, mw_n mi ho, nk_bd, if_pos (nI_le (by omega) (by omega))]
  | succ r ih =>
    intro j fuel hj hf
    obtain ⟨g, rfl⟩ : ∃ g, fuel = g + 1 := ⟨fuel - 1, by omega⟩
    have hj' : j < (D o).2.2.2.length := by omega
    obtain ⟨v, e1, e2⟩ := ih (j + 1) g (by omega) (by omega)
    obtain ⟨a1, a2, a3⟩ := c.2.2.2.2 k hk
    have b1 := lit_add 4 k
    have b2 := lit_add 44 k
    have b3 := lit_add 84 k
    have i1 : am_in (nI (4 + k)) 124 = true := nk_in (by omega) (by decide)
    have i2 : am_in (nI (44 + k)) 124 = true := nk_in (by omega) (by decide)
    have i3 : am_in (nI (84 + k)) 124 = true := nk_in (by omega) (by decide)
    have j1 : am_in (1 : Int32) 124 = true := rfl
    have k1 : (1 : Int32).toNatClampNeg = 1 := rfl
    have l1 : (nI (4 + k)).toNatClampNeg = 4 + k := nI_clamp (by omega)
    have l2 : (nI (44 + k)).toNatClampNeg = 44 + k := nI_clamp (by omega)
    have l3 : (nI (84 + k)).toNatClampNeg = 84 + k := nI_clamp (by omega)
    have hle : ¬ nI (D o).2.2.2.length ≤ nI j := nI_ge hj' (by omega)
    have n11 : (1 : Int32) &&& 1 = 1 := by decide
    have n10 : (1 : Int32) &&& 0 = 0 := by decide
    have n01 : (0 : Int32) &&& 1 = 0 := by decide
    have n00 : (0 : Int32) &&& 0 = 0 := by decide
    show ∃ v, fn12_isThere_b2B N (fn12_isThere_b2 N g) 110 (nI o) (nI k) (nI j) M = _ ∧ _
    unfold fn12_isThere_b2B fn12_isThere_b55 fn12_isThere_b104 fn12_isThere_b107 fn12_isThere_b154
    simp only [nk_k, sk110 s, sr110_48 s, sk140 s, sl140 s, eq_self, decide_true, nk_ck, mw_n mi ho, mw_w mi ho, mw_X mi ho hj', mw_Y mi ho hj', mw_S mi ho hj', nk_bd, hle, if_false, b1, b2, b3, i1, i2, i3, j1, k1, l1, l2, l3, a1, a2, a3, c.2.1, lg_cmp_eq, i64_eq, n11, n10, n01, n00, z_1, if_true, nI_1, e1]
    have no : ¬ ((f k).1.toInt * (D o).2.1.toInt = (qX (D o).2.2.2 j).toInt * w.toInt ∧ (f k).2.1.toInt * (D o).2.1.toInt = (qY (D o).2.2.2 j).toInt * w.toInt ∧ (f k).2.2.toInt * (D o).2.1.toInt = (qS (D o).2.2.2 j).toInt * w.toInt) → ∃ v', (some (v, M) : Option (Int32 × am_Mem)) = some (v', M) ∧ ((v' = 1 ∧ ∃ i, j ≤ i ∧ i < (D o).2.2.2.length ∧ (f k).1.toInt * (D o).2.1.toInt = (qX (D o).2.2.2 i).toInt * w.toInt ∧ (f k).2.1.toInt * (D o).2.1.toInt = (qY (D o).2.2.2 i).toInt * w.toInt ∧ (f k).2.2.toInt * (D o).2.1.toInt = (qS (D o).2.2.2 i).toInt * w.toInt) ∨ (v' = 0 ∧ ¬ ∃ i, j ≤ i ∧ i < (D o).2.2.2.length ∧ (f k).1.toInt * (D o).2.1.toInt = (qX (D o).2.2.2 i).toInt * w.toInt ∧ (f k).2.1.toInt * (D o).2.1.toInt = (qY (D o).2.2.2 i).toInt * w.toInt ∧ (f k).2.2.toInt * (D o).2.1.toInt = (qS (D o).2.2.2 i).toInt * w.toInt)) := by
      intro hn
      refine ⟨v, rfl, ?_⟩
      rcases e2 with ⟨x, i, h1, h2, h3⟩ | ⟨x, y⟩
      · exact Or.inl ⟨x, i, by omega, h2, h3⟩
      · refine Or.inr ⟨x, fun ⟨i, h1, h2, h3⟩ => ?_⟩
        by_cases e : i = j
        · subst e; exact hn h3
        · exact y ⟨i, by omega, h2, h3⟩
    by_cases q1 : (f k).1.toInt * (D o).2.1.toInt = (qX (D o).2.2.2 j).toInt * w.toInt
    · rw [if_pos q1]
      by_cases q2 : (f k).2.1.toInt * (D o).2.1.toInt = (qY (D o).2.2.2 j).toInt * w.toInt
      · rw [if_pos q2]
        by_cases q3 : (f k).2.2.toInt * (D o).2.1.toInt = (qS (D o).2.2.2 j).toInt * w.toInt
        · rw [if_pos q3]
          exact ⟨1, rfl, Or.inl ⟨rfl, j, Nat.le_refl _, hj', q1, q2, q3⟩⟩
        · rw [if_neg q3]; exact no (fun z => q3 z.2.2)
      · rw [if_neg q2]; exact no (fun z => q2 z.2.1)
    · rw [if_neg q1]
      by_cases q2 : (f k).2.1.toInt * (D o).2.1.toInt = (qY (D o).2.2.2 j).toInt * w.toInt
      · rw [if_pos q2]; exact no (fun z => q1 z.1)
      · rw [if_neg q2]; exact no (fun z => q1 z.1)
end
