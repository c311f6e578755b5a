theorem nI_s1 (n : Nat) : nI (n + 1) - 1 = nI n := by rw [← nI_1, Int32.add_sub_cancel]
/-- a row of longs filled with zeros -/
theorem fl_c {N r : Nat} : ∀ m j fuel M, j + m = 10 → m < fuel → am_K M r = 15 → am_L M r = 10 → ∃ M', fnJ7_fill_d0a16_b6 N fuel r 0 (nI j) (nI 10) M = some ((), M') ∧ Fs [r] M M' ∧ (∀ y, j ≤ y → y < 10 → am_J M' r y = 0) ∧ ∀ y, y < j → am_J M' r y = am_J M r y := by
  intro m
  induction m with
  | zero =>
    intro j fuel M hj hf k l
    obtain ⟨g, rfl⟩ : ∃ g, fuel = g + 1 := ⟨fuel - 1, by omega⟩
    refine ⟨M, ?_, fs_refl _ _, fun y a b => by omega, fun _ _ => rfl⟩
    show fnJ7_fill_d0a16_b6B N (fnJ7_fill_d0a16_b6 N g) r 0 (nI j) (nI 10) M = _
    unfold fnJ7_fill_d0a16_b6B
    rw [if_pos (nI_le (by omega) (by omega))]
  | succ m ih =>
    intro j fuel M hj hf k l
    obtain ⟨g, rfl⟩ : ∃ g, fuel = g + 1 := ⟨fuel - 1, by omega⟩
    have f1 : Fs [r] M (am_wJ M r j 0) := fs_wJ _ _ _ List.mem_cons_self
    have st : fnJ7_fill_d0a16_b6 N (g + 1) r 0 (nI j) (nI 10) M = fnJ7_fill_d0a16_b6 N g r 0 (nI (j + 1)) (nI 10) (am_wJ M r j 0) := by
      show fnJ7_fill_d0a16_b6B N (fnJ7_fill_d0a16_b6 N g) r 0 (nI j) (nI 10) M = _
      unfold fnJ7_fill_d0a16_b6B
      rw [if_neg (nI_ge (by omega) (by omega)), nk_k, k, nk_dd, l, nk_in (by omega) (by decide), nk_ck, nI_clamp (by omega), nI_1]
    rw [st]
    obtain ⟨M', a1, a2, a3, a4⟩ := ih (j + 1) g (am_wJ M r j 0) (by omega) (by omega) (by rw [f1.2.1]; exact k) (by rw [f1.2.2.1]; exact l)
    refine ⟨M', a1, fs_trans f1 a2, fun y h1 h2 => ?_, fun y hy => ?_⟩
    · by_cases e : y = j
      · rw [e, a4 j (by omega), rJ_eq]
      · exact a3 y (by omega) h2
    · rw [a4 y (by omega), rJ_ix _ _ _ (by omega)]
section
variable {a b : Nat → Nat} {W n : Nat}
theorem fz_c {N : Nat} (hN : 100000 ≤ N) (hn : n ≤ 8) {x2 : Int32} : ∀ m i fuel M, i + m = n + 1 → m < fuel → Shp M → (∀ r, r < i → ∀ j, j ≤ n → am_J M (27 + r) j = 0) → ∃ M', fn5_fillMatrix_b2 N fuel 25 (nI (n + 1)) x2 (nI i) M = fn5_fillMatrix_b25 N N 25 (nI (n + 1)) x2 (nI 0) M' ∧ Fs mtW M M' ∧ ∀ r, r ≤ n → ∀ j, j ≤ n → am_J M' (27 + r) j = 0 := by
  intro m
  induction m with
  | zero =>
    intro i fuel M hi hf s h
    obtain ⟨g, rfl⟩ : ∃ g, fuel = g + 1 := ⟨fuel - 1, by omega⟩
    refine ⟨M, ?_, fs_refl _ _, fun r hr j hj => h r (by omega) j hj⟩
    show fn5_fillMatrix_b2B N (fn5_fillMatrix_b2 N g) 25 (nI (n + 1)) x2 (nI i) M = _
    unfold fn5_fillMatrix_b2B
    rw [if_pos (nI_le (by omega) (by omega))]
    rfl
  | succ m ih =>
    intro i fuel M hi hf s h
    obtain ⟨g, rfl⟩ : ∃ g, fuel = g + 1 := ⟨fuel - 1, by omega⟩
    obtain ⟨r1, k1, l1⟩ := s26t s (show i < 9 by omega)
    obtain ⟨M1, a1, a2, a3, _⟩ := fl_c (N := N) (r := 27 + i) 10 0 N M (by omega) (by omega) k1 l1
    have fi : fnJ7_fill_d0a16 N M (27 + i) 0 = some ((), M1) := by
      unfold fnJ7_fill_d0a16 fnJ7_fill_d0a16_b0
      rw [nk_k, k1, nk_dd, l1]
      exact a1
    have st : fn5_fillMatrix_b2 N (g + 1) 25 (nI (n + 1)) x2 (nI i) M = fn5_fillMatrix_b2 N g 25 (nI (n + 1)) x2 (nI (i + 1)) M1 := by
      show fn5_fillMatrix_b2B N (fn5_fillMatrix_b2 N g) 25 (nI (n + 1)) x2 (nI i) M = _
      unfold fn5_fillMatrix_b2B
      rw [if_neg (nI_ge (by omega) (by omega)), nk_k, sk25 s, nk_dd, sr25_0 s, nk_k, sk26 s, nk_dd, sl26 s, nk_in (show i < 9 by omega) (by decide), nk_ck, nI_clamp (by omega), r1, fi, nk_bd, nI_1]
    rw [st]
    have a2' : Fs mtW M M1 := fs_mono a2 (fun x hx => by rw [List.mem_singleton.mp hx]; exact mtW_t (by omega))
    obtain ⟨M2, b1, b2, b3⟩ := ih (i + 1) g M1 (by omega) (by omega) (fs_shp a2 s) (fun r hr j hj => by
      by_cases q : r = i
      · rw [q]; exact a3 j (Nat.zero_le j) (by omega)
      · rw [fs_J a2 (by rw [List.mem_singleton]; omega)]; exact h r (by omega) j hj)
    exact ⟨M2, b1, fs_trans a2' b2, b3⟩
theorem lap_s (w j i : Nat) : Lap a b (w + 1) j i = Lap a b w j i + dl a b w i * dl a b w j := rfl
theorem fw_c {N : Nat} (hN : 100000 ≤ N) (hn : n ≤ 8) (hW : W ≤ 14) (ha : ∀ w, w < W → a w ≤ n ∧ b w ≤ n ∧ ¬ a w = b w) : ∀ m w fuel M, w + m = W → m < fuel → Shp M → (∀ u, u < W → am_I M 36 u = nI (a u) ∧ am_I M 37 u = nI (b u)) → (∀ i, i ≤ n → ∀ j, j ≤ n → am_J M (27 + i) j = lI (Lap a b w j i)) → ∃ M', fn5_fillMatrix_b25 N fuel 25 (nI (n + 1)) (nI W) (nI w) M = fn5_fillMatrix_b112 N 25 (nI n) M' ∧ Fs mtW M M' ∧ ∀ i, i ≤ n → ∀ j, j ≤ n → am_J M' (27 + i) j = lI (Lap a b W j i) := by
  intro m
  induction m with
  | zero =>
    intro w fuel M hw hf s h1 h2
    obtain ⟨g, rfl⟩ : ∃ g, fuel = g + 1 := ⟨fuel - 1, by omega⟩
    have e : w = W := by omega
    subst e
    refine ⟨M, ?_, fs_refl _ _, h2⟩
    show fn5_fillMatrix_b25B N (fn5_fillMatrix_b25 N g) 25 (nI (n + 1)) (nI w) (nI w) M = _
    unfold fn5_fillMatrix_b25B
    rw [if_pos (nI_le (Nat.le_refl w) (by omega)), nI_s1]
  | succ m ih =>
    intro w fuel M hw hf s h1 h2
    obtain ⟨g, rfl⟩ : ∃ g, fuel = g + 1 := ⟨fuel - 1, by omega⟩
    obtain ⟨an, bn, ne⟩ := ha w (by omega)
    obtain ⟨wa, wb⟩ := h1 w (by omega)
    obtain ⟨r1, k1, l1⟩ := s26t s (show a w < 9 by omega)
    obtain ⟨r2, k2, l2⟩ := s26t s (show b w < 9 by omega)
    have c1 : (nI (a w)).toNatClampNeg = a w := nI_clamp (by omega)
    have c2 : (nI (b w)).toNatClampNeg = b w := nI_clamp (by omega)
    have i1 : am_in (nI (a w)) 9 = true := nk_in (by omega) (by decide)
    have i2 : am_in (nI (b w)) 9 = true := nk_in (by omega) (by decide)
    have i3 : am_in (nI (a w)) 10 = true := nk_in (by omega) (by decide)
    have i4 : am_in (nI (b w)) 10 = true := nk_in (by omega) (by decide)
    have n1 : ¬ 27 + b w = 27 + a w := by omega
    have n2 : ¬ 27 + a w = 27 + b w := by omega
    have n3 : ¬ b w = a w := by omega
    have st : fn5_fillMatrix_b25 N (g + 1) 25 (nI (n + 1)) (nI W) (nI w) M = fn5_fillMatrix_b25 N g 25 (nI (n + 1)) (nI W) (nI (w + 1)) (am_wJ (am_wJ (am_wJ (am_wJ M (27 + a w) (a w) (am_J M (27 + a w) (a w) + 1)) (27 + b w) (b w) (am_J M (27 + b w) (b w) + 1)) (27 + a w) (b w) (am_J M (27 + a w) (b w) - 1)) (27 + b w) (a w) (am_J M (27 + b w) (a w) - 1)) := by
      show fn5_fillMatrix_b25B N (fn5_fillMatrix_b25 N g) 25 (nI (n + 1)) (nI W) (nI w) M = _
      unfold fn5_fillMatrix_b25B fn5_fillMatrix_b38 fn5_fillMatrix_b46
      have iw : am_in (nI w) 14 = true := nk_in (by omega) (by decide)
      have cw : (nI w).toNatClampNeg = w := nI_clamp (by omega)
      rw [if_neg (nI_ge (by omega) (by omega))]
      simp only [nk_k, sk25 s, eq_self, decide_true, nk_ck, sr25_0 s, sr25_1 s, sr25_2 s, sk36 s, sl36 s, sk37 s, sl37 s, iw, cw, wa, wb, sk26 s, sl26 s, c1, c2, i1, i2, i3, i4, r1, r2, k1, k2, l1, l2, rJ_ne _ _ _ n1, rJ_ne _ _ _ n2, rJ_ix _ _ _ n3, rJ_ix _ _ _ ne, nI_1]
    rw [st]
    have f1 : Fs mtW M (am_wJ (am_wJ (am_wJ (am_wJ M (27 + a w) (a w) (am_J M (27 + a w) (a w) + 1)) (27 + b w) (b w) (am_J M (27 + b w) (b w) + 1)) (27 + a w) (b w) (am_J M (27 + a w) (b w) - 1)) (27 + b w) (a w) (am_J M (27 + b w) (a w) - 1)) := fs_trans (fs_trans (fs_trans (fs_wJ _ _ _ (mtW_t (by omega))) (fs_wJ _ _ _ (mtW_t (by omega)))) (fs_wJ _ _ _ (mtW_t (by omega)))) (fs_wJ _ _ _ (mtW_t (by omega)))
    have up : ∀ z : Int, lI z + 1 = lI (z + 1) := fun z => (Int64.ofInt_add z 1).symm
    have dn : ∀ z : Int, lI z - 1 = lI (z + -1) := fun z => (Int64.ofInt_sub z 1).symm
    have cell : ∀ i, i ≤ n → ∀ j, j ≤ n → am_J (am_wJ (am_wJ (am_wJ (am_wJ M (27 + a w) (a w) (am_J M (27 + a w) (a w) + 1)) (27 + b w) (b w) (am_J M (27 + b w) (b w) + 1)) (27 + a w) (b w) (am_J M (27 + a w) (b w) - 1)) (27 + b w) (a w) (am_J M (27 + b w) (a w) - 1)) (27 + i) j = lI (Lap a b (w + 1) j i) := by
      intro i hi j hj
      have o := h2 i hi j hj
      rw [lap_s]
      unfold dl
      by_cases ia : i = a w
      · subst ia
        rw [if_pos rfl, if_neg ne, rJ_ne _ _ _ n2]
        by_cases ja : j = a w
        · subst ja
          rw [if_pos rfl, if_neg ne, rJ_ix _ _ _ ne, rJ_ne _ _ _ n2, rJ_eq, o, up]
          rfl
        · by_cases jb : j = b w
          · subst jb
            rw [if_neg n3, if_pos rfl, rJ_eq, o, dn]
            rfl
          · rw [if_neg ja, if_neg jb, rJ_ix _ _ _ jb, rJ_ne _ _ _ n2, rJ_ix _ _ _ ja, o, show ((1 : Int) - 0) * (0 - 0) = 0 from rfl, Int.add_zero]
      · rw [if_neg ia]
        by_cases ib : i = b w
        · subst ib
          rw [if_pos rfl]
          by_cases ja : j = a w
          · subst ja
            rw [if_pos rfl, if_neg ne, rJ_eq, o, dn]
            rfl
          · rw [rJ_ix _ _ _ ja, rJ_ne _ _ _ n1]
            by_cases jb : j = b w
            · subst jb
              rw [if_neg n3, if_pos rfl, rJ_eq, o, up]
              rfl
            · rw [if_neg ja, if_neg jb, rJ_ix _ _ _ jb, rJ_ne _ _ _ n1, o, show ((0 : Int) - 1) * (0 - 0) = 0 from rfl, Int.add_zero]
        · rw [if_neg ib, rJ_ne _ _ _ (by omega), rJ_ne _ _ _ (by omega), rJ_ne _ _ _ (by omega), rJ_ne _ _ _ (by omega), o, show ((0 : Int) - 0) = 0 from rfl, Int.zero_mul, Int.add_zero]
    revert f1 cell
    generalize am_wJ (am_wJ (am_wJ (am_wJ M (27 + a w) (a w) (am_J M (27 + a w) (a w) + 1)) (27 + b w) (b w) (am_J M (27 + b w) (b w) + 1)) (27 + a w) (b w) (am_J M (27 + a w) (b w) - 1)) (27 + b w) (a w) (am_J M (27 + b w) (a w) - 1) = M1
    intro f1 cell
    obtain ⟨M2, b1, b2, b3⟩ := ih (w + 1) g M1 (by omega) (by omega) (fs_shp f1 s) (fun u hu => by rw [fs_I f1 (by decide), fs_I f1 (by decide)]; exact h1 u hu) cell
    exact ⟨M2, b1, fs_trans f1 b2, b3⟩
theorem fr_c {N : Nat} (hn : n ≤ 8) : ∀ m i fuel M, i + m = n → m < fuel → Shp M → (∀ r, r < i → am_J M (27 + r) n = lI (if r = 0 then 1 else 0)) → ∃ M', fn5_fillMatrix_b115 N fuel 25 (nI n) (nI i) M = some ((), M') ∧ Fs mtW M M' ∧ (∀ r, r < n → am_J M' (27 + r) n = lI (if r = 0 then 1 else 0)) ∧ ∀ r j, ¬ j = n → am_J M' (27 + r) j = am_J M (27 + r) j := by
  intro m
  induction m with
  | zero =>
    intro i fuel M hi hf s h
    obtain ⟨g, rfl⟩ : ∃ g, fuel = g + 1 := ⟨fuel - 1, by omega⟩
    refine ⟨M, ?_, fs_refl _ _, fun r hr => h r (by omega), fun _ _ _ => rfl⟩
    show fn5_fillMatrix_b115B N (fn5_fillMatrix_b115 N g) 25 (nI n) (nI i) M = _
    unfold fn5_fillMatrix_b115B
    rw [if_pos (nI_le (by omega) (by omega))]
  | succ m ih =>
    intro i fuel M hi hf s h
    obtain ⟨g, rfl⟩ : ∃ g, fuel = g + 1 := ⟨fuel - 1, by omega⟩
    obtain ⟨r1, k1, l1⟩ := s26t s (show i < 9 by omega)
    have st : fn5_fillMatrix_b115 N (g + 1) 25 (nI n) (nI i) M = fn5_fillMatrix_b115 N g 25 (nI n) (nI (i + 1)) (am_wJ M (27 + i) n (lI (if i = 0 then 1 else 0))) := by
      show fn5_fillMatrix_b115B N (fn5_fillMatrix_b115 N g) 25 (nI n) (nI i) M = _
      unfold fn5_fillMatrix_b115B fn5_fillMatrix_b139
      rw [if_neg (nI_ge (by omega) (by omega)), nk_k, sk25 s, nk_dd, sr25_0 s, nk_k, sk26 s, nk_dd, sl26 s, nk_in (show i < 9 by omega) (by decide), nk_ck, nI_clamp (by omega), r1, nk_k, k1, nk_dd, l1, nk_in (by omega) (by decide), nk_ck, nI_clamp (by omega), nI_1]
      by_cases e : i = 0
      · rw [if_pos (show nI i = 0 by rw [e]; rfl), if_pos e]; rfl
      · rw [if_neg (show ¬ nI i = (0 : Int32) from fun z => e (nI_inj (b := 0) (by omega) (by decide) z)), if_neg e, nk_dd, nk_ck]; rfl
    rw [st]
    have f1 : Fs mtW M (am_wJ M (27 + i) n (lI (if i = 0 then 1 else 0))) := fs_wJ _ _ _ (mtW_t (by omega))
    obtain ⟨M2, b1, b2, b3, b4⟩ := ih (i + 1) g _ (by omega) (by omega) (fs_shp f1 s) (fun r hr => by
      by_cases q : r = i
      · rw [q, rJ_eq]
      · rw [rJ_ne _ _ _ (by omega)]; exact h r (by omega))
    refine ⟨M2, b1, fs_trans f1 b2, b3, fun r j hj => ?_⟩
    rw [b4 r j hj]
    by_cases q : r = i
    · rw [q, rJ_ix _ _ _ hj]
    · rw [rJ_ne _ _ _ (by omega)]
theorem fm_c {N : Nat} {M : am_Mem} (hN : 100000 ≤ N) (hn : n ≤ 8) (hW : W ≤ 14) (ha : ∀ w, w < W → a w ≤ n ∧ b w ≤ n ∧ ¬ a w = b w) (s : Shp M) (h1 : ∀ u, u < W → am_I M 36 u = nI (a u) ∧ am_I M 37 u = nI (b u)) : ∃ M', fn5_fillMatrix N M 25 (nI (n + 1)) (nI W) = some ((), M') ∧ Fs mtW M M' ∧ MtC M' n (GJ (Lap a b W) n 0) := by
  obtain ⟨M1, a1, a2, a3⟩ := fz_c (N := N) (x2 := nI W) hN hn (n + 1) 0 N M (by omega) (by omega) s (fun r hr => absurd hr (Nat.not_lt_zero r))
  obtain ⟨M2, b1, b2, b3⟩ := fw_c (N := N) hN hn hW ha W 0 N M1 (by omega) (by omega) (fs_shp a2 s) (fun u hu => by rw [fs_I a2 (by decide), fs_I a2 (by decide)]; exact h1 u hu) (fun i hi j hj => a3 i hi j hj)
  obtain ⟨M3, c1, c2, c3, c4⟩ := fr_c (N := N) hn n 0 N M2 (by omega) (by omega) (fs_shp b2 (fs_shp a2 s)) (fun r hr => absurd hr (Nat.not_lt_zero r))
  refine ⟨M3, ?_, fs_trans a2 (fs_trans b2 c2), fun i hi j hj => ?_⟩
  · unfold fn5_fillMatrix fn5_fillMatrix_b0
    have a1' : fn5_fillMatrix_b2 N N 25 (nI (n + 1)) (nI W) (0 : Int32) M = _ := a1
    rw [a1', b1]
    exact c1
  · rw [gj_0]
    unfold cxM
    rw [if_pos hi]
    by_cases e : j = n
    · rw [if_pos e, e]; exact c3 i hi
    · rw [if_neg e, c4 i j e]; exact b3 i (by omega) j hj
end
