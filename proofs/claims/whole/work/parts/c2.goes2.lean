theorem fn_old {sz : Nat → Nat} {Wd x : Nat} {p : List Nat} {j : Nat} (h : (sqN sz Wd p).length = p.length) (hj : j < p.length) : fN sz Wd (x :: p) j = fN sz Wd p j := by
  unfold fN
  show sqI ((sqN sz Wd p ++ [sqO (opN sz Wd p) (sz x)]).getD j (0, 0, 0)) = _
  rw [gd_l (by omega)]
theorem fn_new {sz : Nat → Nat} {Wd x : Nat} {p : List Nat} (h : (sqN sz Wd p).length = p.length) : fN sz Wd (x :: p) p.length = sqI (sqO (opN sz Wd p) (sz x)) := by
  unfold fN
  show sqI ((sqN sz Wd p ++ [sqO (opN sz Wd p) (sz x)]).getD p.length (0, 0, 0)) = _
  rw [gd_r (by omega), h, Nat.sub_self]
  rfl
section
variable {a b : Nat → Nat} {W n N r K : Nat}
/-- what the reference's search comes to -/
def GoE (M' : am_Mem) (a b : Nat → Nat) (W n r K : Nat) (p : List Nat) (v : Int32) (q : Rs) : Prop := (q.1 = 1 ∧ v = 1 ∧ am_I M' 126 r = nI q.2.1 ∧ SqM M' r K (fN (nSz a b W n) (nW a b W n) q.2.2)) ∨ (q.1 = 0 ∧ v = 0 ∧ NsM M' r W K (nW a b W n) (nSz a b W n) p q.2.1) ∨ (q.1 = 2 ∧ v = 0 ∧ am_I M' 126 r = nI q.2.1 ∧ am_I M' 110 39 = 1)
theorem nw_pos (hn0 : 0 < n) (d0 : 0 < fD a b W n) : 0 < nW a b W n := by
  have g := fg_pos (a := a) (b := b) (W := W) hn0 d0
  obtain ⟨q, e⟩ := fg_d (a := a) (b := b) (W := W) hn0
  unfold nW
  rw [e, Int.mul_ediv_cancel_left _ (by omega)]
  have : 0 < (fG a b W n W : Int) * q := by rw [← e]; exact d0
  have := Int.pos_of_mul_pos_right this (by omega)
  omega
theorem nw_le (hn0 : 0 < n) (hW : W ≤ 14) (d0 : 0 < fD a b W n) : nW a b W n ≤ 1000000000 := by
  have g := fg_pos (a := a) (b := b) (W := W) hn0 d0
  have h1 := fd_le (a := a) (b := b) hW n
  have h2 := abs_div (d := (fG a b W n W : Int)) (by omega) (fg_d (a := a) (b := b) (W := W) hn0)
  unfold nW
  unfold fD at h2 ⊢
  omega
theorem nh_le (hW : W ≤ 14) (d0 : 0 < fD a b W n) (g0 : ¬ fG a b W n W = 0) : nH a b W n ≤ 1000000000 := by
  have := fl_le (a := a) (b := b) hW d0 g0 0
  unfold nH
  omega
/-- one wire after the other, the reference -/
theorem go_l {d r' : Nat} {p : List Nat} (hN : 100000 ≤ N) (hr : r < 6) (hn : n ≤ 8) (hn0 : 0 < n) (hW : W ≤ 14) (ha : ∀ w, w < W → a w ≤ n ∧ b w ≤ n ∧ ¬ a w = b w) (d0 : 0 < fD a b W n) (hK : K ≤ 14) (hp : p.length + (r' + 1) = K) (pt : PtN (fitB (nSz a b W n) (nSt a b W n) (nW a b W n) (nH a b W n)) W p)
    (ih : ∀ (x c : Nat) (M : am_Mem), x < W → fitB (nSz a b W n) (nSt a b W n) (nW a b W n) (nH a b W n) p x = true → c ≤ 20000 → Shp M → NtS M r a b W n → NsM M r W K (nW a b W n) (nSz a b W n) (x :: p) c → ∃ v M', fn12_goes N d M 110 (nI r) (nI (p.length + 1)) = some (v, M') ∧ GoB M M' r (p.length + 1) ∧ GoE M' a b W n r K (x :: p) v (gsF (fitB (nSz a b W n) (nSt a b W n) (nW a b W n) (nH a b W n)) W r' (x :: p) c)) : ∀ k c fuel M, k ≤ W → c ≤ 20000 → k + 1 < fuel → Shp M → NtS M r a b W n → NsM M r W K (nW a b W n) (nSz a b W n) p c → ∃ v M', fn12_goes_b33 N (fn12_goes N d) fuel 110 (nI r) (nI p.length) (nI (ntO (opN (nSz a b W n) (nW a b W n) p))) (lI (dpO (opN (nSz a b W n) (nW a b W n) p) (ntO (opN (nSz a b W n) (nW a b W n) p)) : Int)) (nI (W - k)) M = some (v, M') ∧ GoB M M' r p.length ∧ GoE M' a b W n r K p v (lpF (fitB (nSz a b W n) (nSt a b W n) (nW a b W n) (nH a b W n)) W (gsF (fitB (nSz a b W n) (nSt a b W n) (nW a b W n) (nH a b W n)) W r') p k c) := by
  have g0 : ¬ fG a b W n W = 0 := by have := fg_pos (a := a) (b := b) (W := W) hn0 d0; omega
  have wp := nw_pos (a := a) (b := b) (W := W) hn0 d0
  have wle := nw_le (a := a) (b := b) (W := W) hn0 hW d0
  have hle := nh_le (a := a) (b := b) (n := n) hW d0 g0
  have hsz : ∀ w, w < W → nSz a b W n w ≤ nSt a b W n w := fun w hw => sz_st hn0 d0 w hw
  obtain ⟨o1, o2, o3, o4, o5, o6, o7⟩ : OkO (opN (nSz a b W n) (nW a b W n) p) (nW a b W n) ∧ SkO (opN (nSz a b W n) (nW a b W n) p) (nW a b W n) (sqN (nSz a b W n) (nW a b W n) p) ∧ DvO (opN (nSz a b W n) (nW a b W n) p) (nW a b W n) (sqN (nSz a b W n) (nW a b W n) p) ∧ DpO (opN (nSz a b W n) (nW a b W n) p) (nH a b W n) ∧ (opN (nSz a b W n) (nW a b W n) p).length ≤ p.length + 1 ∧ (∀ q ∈ sqN (nSz a b W n) (nW a b W n) p, q.2.1 + q.2.2 ≤ nH a b W n) ∧ (sqN (nSz a b W n) (nW a b W n) p).length = p.length := pt_okm wp hsz p pt
  have nl := nt_lt o1
  have dpn : dpO (opN (nSz a b W n) (nW a b W n) p) (ntO (opN (nSz a b W n) (nW a b W n) p)) ≤ nH a b W n := o4 _ nl
  have hdp : ∀ j, j < (opN (nSz a b W n) (nW a b W n) p).length → dpO (opN (nSz a b W n) (nW a b W n) p) j < 2147483648 := fun j hj => by
    have : dpO (opN (nSz a b W n) (nW a b W n) p) j ≤ nH a b W n := o4 j hj
    omega
  intro k
  induction k with
  | zero =>
    intro c fuel M hk hc hf s nt ns
    obtain ⟨g, rfl⟩ : ∃ g, fuel = g + 1 := ⟨fuel - 1, by omega⟩
    refine ⟨0, M, ?_, gob_refl _ _ _, Or.inr (Or.inl ⟨rfl, rfl, ns⟩)⟩
    show fn12_goes_b33B N (fn12_goes N d) (fn12_goes_b33 N (fn12_goes N d) g) 110 (nI r) (nI p.length) _ _ (nI (W - 0)) M = _
    unfold fn12_goes_b33B fn12_goes_b192
    rw [nk_k, sk110 s, nk_dd, sr110_25 s, nk_k, sk123 s, nk_dd, sl123 s, nk_in hr (by decide), nk_ck, nI_clamp (by omega), nt.1.1, if_pos (nI_le (by omega) (by omega))]
  | succ k ihk =>
    intro c fuel M hk hc hf s nt ns
    obtain ⟨g, rfl⟩ : ∃ g, fuel = g + 1 := ⟨fuel - 1, by omega⟩
    obtain ⟨n1, n2, n3, n4, n5, n6, n7⟩ := id ns
    have wl : W - (k + 1) < W := by omega
    have ew : W - (k + 1) + 1 = W - k := by omega
    have szw := sz_m hr hW g0 s nt wl
    have tpw := tp_m hr hn hW ha d0 g0 s nt wl
    have szl : nSz a b W n (W - (k + 1)) ≤ 2000000000 := fi_le hW g0 _ wl
    have wo : fn12_widthOf M 110 (nI p.length) (nI (ntO (opN (nSz a b W n) (nW a b W n) p))) = some (nI (wdO (opN (nSz a b W n) (nW a b W n) p) (nW a b W n)), M) := wo_m s (show p.length < 42 by omega) (by omega) o1 (by omega) n6 n4 nl
    have wdl : wdO (opN (nSz a b W n) (nW a b W n) p) (nW a b W n) ≤ 1000000000 := by
      have := bg_en o1 nl
      unfold wdO
      omega
    have eg : lpF (fitB (nSz a b W n) (nSt a b W n) (nW a b W n) (nH a b W n)) W (gsF (fitB (nSz a b W n) (nSt a b W n) (nW a b W n) (nH a b W n)) W r') p (k + 1) c = if fitB (nSz a b W n) (nSt a b W n) (nW a b W n) (nH a b W n) p (W - (k + 1)) = true then (if c = 20000 then (2, c, []) else if (gsF (fitB (nSz a b W n) (nSt a b W n) (nW a b W n) (nH a b W n)) W r' ((W - (k + 1)) :: p) (c + 1)).1 = 0 then lpF (fitB (nSz a b W n) (nSt a b W n) (nW a b W n) (nH a b W n)) W (gsF (fitB (nSz a b W n) (nSt a b W n) (nW a b W n) (nH a b W n)) W r') p k (gsF (fitB (nSz a b W n) (nSt a b W n) (nW a b W n) (nH a b W n)) W r' ((W - (k + 1)) :: p) (c + 1)).2.1 else gsF (fitB (nSz a b W n) (nSt a b W n) (nW a b W n) (nH a b W n)) W r' ((W - (k + 1)) :: p) (c + 1)) else lpF (fitB (nSz a b W n) (nSt a b W n) (nW a b W n) (nH a b W n)) W (gsF (fitB (nSz a b W n) (nSt a b W n) (nW a b W n) (nH a b W n)) W r') p k c := rfl
    have hd : fn12_goes_b33 N (fn12_goes N d) (g + 1) 110 (nI r) (nI p.length) (nI (ntO (opN (nSz a b W n) (nW a b W n) p))) (lI (dpO (opN (nSz a b W n) (nW a b W n) p) (ntO (opN (nSz a b W n) (nW a b W n) p)) : Int)) (nI (W - (k + 1))) M = fn12_goes_b33B N (fn12_goes N d) (fn12_goes_b33 N (fn12_goes N d) g) 110 (nI r) (nI p.length) (nI (ntO (opN (nSz a b W n) (nW a b W n) p))) (lI (dpO (opN (nSz a b W n) (nW a b W n) p) (ntO (opN (nSz a b W n) (nW a b W n) p)) : Int)) (nI (W - (k + 1))) M := rfl
    rw [eg, hd]
    unfold fn12_goes_b33B fn12_goes_b186
    rw [nk_k, sk110 s, nk_dd, sr110_25 s, nk_k, sk123 s, nk_dd, sl123 s, nk_in hr (by decide), nk_ck, nI_clamp (by omega), nt.1.1, if_neg (nI_ge (by omega) (by omega)), if_pos n2, szw, nk_bd, nk_k, sk110 s, nk_dd, sr110_37 s, nk_k, sk134 s, nk_dd, sl134 s, nk_in (show W - (k + 1) < 14 by omega) (by decide), nk_ck, nI_clamp (by omega), n5 _ wl, nI_1, ew]
    have skip : ¬ fitB (nSz a b W n) (nSt a b W n) (nW a b W n) (nH a b W n) p (W - (k + 1)) = true → ∃ v M', fn12_goes_b33 N (fn12_goes N d) g 110 (nI r) (nI p.length) (nI (ntO (opN (nSz a b W n) (nW a b W n) p))) (lI (dpO (opN (nSz a b W n) (nW a b W n) p) (ntO (opN (nSz a b W n) (nW a b W n) p)) : Int)) (nI (W - k)) M = some (v, M') ∧ GoB M M' r p.length ∧ GoE M' a b W n r K p v (if fitB (nSz a b W n) (nSt a b W n) (nW a b W n) (nH a b W n) p (W - (k + 1)) = true then (if c = 20000 then (2, c, []) else if (gsF (fitB (nSz a b W n) (nSt a b W n) (nW a b W n) (nH a b W n)) W r' ((W - (k + 1)) :: p) (c + 1)).1 = 0 then lpF (fitB (nSz a b W n) (nSt a b W n) (nW a b W n) (nH a b W n)) W (gsF (fitB (nSz a b W n) (nSt a b W n) (nW a b W n) (nH a b W n)) W r') p k (gsF (fitB (nSz a b W n) (nSt a b W n) (nW a b W n) (nH a b W n)) W r' ((W - (k + 1)) :: p) (c + 1)).2.1 else gsF (fitB (nSz a b W n) (nSt a b W n) (nW a b W n) (nH a b W n)) W r' ((W - (k + 1)) :: p) (c + 1)) else lpF (fitB (nSz a b W n) (nSt a b W n) (nW a b W n) (nH a b W n)) W (gsF (fitB (nSz a b W n) (nSt a b W n) (nW a b W n) (nH a b W n)) W r') p k c) := by
      intro nf
      rw [if_neg nf]
      exact ihk c g M (by omega) hc (by omega) s nt ns
    by_cases q1 : W - (k + 1) ∈ p
    · rw [if_pos q1, if_neg z_1]
      exact skip (fun z => (fit_iff.mp z).1 q1)
    · rw [if_neg q1, if_pos rfl]
      by_cases q2 : nSz a b W n (W - (k + 1)) = 0
      · rw [if_pos (show nI (nSz a b W n (W - (k + 1))) = (0 : Int32) by rw [q2]; rfl)]
        exact skip (fun z => by have := (fit_iff.mp z).2.1; omega)
      · rw [if_neg (show ¬ nI (nSz a b W n (W - (k + 1))) = (0 : Int32) from fun z => q2 (nI_inj (b := 0) (by omega) (by decide) z)), wo, nk_bd]
        by_cases q3 : wdO (opN (nSz a b W n) (nW a b W n) p) (nW a b W n) < nSz a b W n (W - (k + 1))
        · rw [if_pos (nI_lt q3 (by omega))]
          exact skip (fun z => by have := (fit_iff.mp z).2.2.1; omega)
        · rw [if_neg (i32_nl q3 (by omega) (by omega)), nk_k, sk110 s, nk_dd, tpw, nk_bd, nk_k, sk110 s, nk_dd, sr110_30 s, nk_k, sk128 s, nk_dd, sl128 s]
          have e9 : (9 : Int32) * nI r = nI (9 * r) := (Int32.ofNat_mul 9 _).symm
          have l0 := nt.2.1 0 (Nat.zero_le n)
          rw [Nat.add_zero] at l0
          have h1 := fs_le (a := a) (b := b) hW d0 g0 (W - (k + 1))
          have h2 := fl_le (a := a) (b := b) hW d0 g0 0
          have h3 := fs_nn (a := a) (b := b) (W := W) hn0 d0 (W - (k + 1))
          have h4 := fl_nn (a := a) (b := b) (W := W) hn0 d0 0
          have cmp : (lg_cmp (lI (fS a b W n (W - (k + 1)))) (lI (fL a b W n 0) - lI (dpO (opN (nSz a b W n) (nW a b W n) p) (ntO (opN (nSz a b W n) (nW a b W n) p)) : Int)) = 0) ↔ nSt a b W n (W - (k + 1)) + dpO (opN (nSz a b W n) (nW a b W n) p) (ntO (opN (nSz a b W n) (nW a b W n) p)) = nH a b W n := by
            rw [lg_cmp_eq, show lI (fL a b W n 0) - lI (dpO (opN (nSz a b W n) (nW a b W n) p) (ntO (opN (nSz a b W n) (nW a b W n) p)) : Int) = lI (fL a b W n 0 - (dpO (opN (nSz a b W n) (nW a b W n) p) (ntO (opN (nSz a b W n) (nW a b W n) p)) : Int)) from (Int64.ofInt_sub _ _).symm]
            unfold nSt nH at *
            constructor
            · intro e
              have := li_inj (by omega) (by omega) e
              omega
            · intro e
              exact congrArg lI (by omega)
          rw [e9, nk_in (show 9 * r < 54 by omega) (by decide), nk_ck, nI_clamp (by omega), l0]
          by_cases q4 : nSt a b W n (W - (k + 1)) + dpO (opN (nSz a b W n) (nW a b W n) p) (ntO (opN (nSz a b W n) (nW a b W n) p)) = nH a b W n
          · have fit : fitB (nSz a b W n) (nSt a b W n) (nW a b W n) (nH a b W n) p (W - (k + 1)) = true := fit_iff.mpr ⟨q1, by omega, by omega, q4⟩
            rw [if_pos (cmp.mpr q4), if_pos fit, sr110_28 s, nk_k, sk126 s, nk_dd, sl126 s, nk_in hr (by decide), nk_ck, n1]
            by_cases q5 : c = 20000
            · rw [if_pos (show nI c = (20000 : Int32) by rw [q5]; rfl), if_pos q5]
              exact ⟨0, _, rfl, gob_39 _ _ _ _, Or.inr (Or.inr ⟨rfl, rfl, by rw [rI_ne _ _ _ (by decide)]; exact n1, rI_eq _ _ _ _⟩)⟩
            · rw [if_neg (show ¬ nI c = (20000 : Int32) from fun z => q5 (nI_inj (b := 20000) (by omega) (by decide) z)), if_neg q5, nk_ck, nk_ck, sr110_37 s, nk_k, sk134 s, nk_dd, sl134 s, nk_in (show W - (k + 1) < 14 by omega) (by decide), nk_ck, nI_1]
              have hst := hsz _ wl
              have b1 : GoB M (am_wI (am_wI M 126 r (nI (c + 1))) 134 (W - (k + 1)) ((1 : Int32) &&& 1)) r p.length := gob_trans (gob_26 M r p.length _) (gob_34 _ r p.length _ _) (Nat.le_refl _)
              have x1 : am_I (am_wI (am_wI M 126 r (nI (c + 1))) 134 (W - (k + 1)) ((1 : Int32) &&& 1)) 126 r = nI (c + 1) := by rw [rI_ne _ _ _ (by decide), rI_eq]
              have x5 : ∀ w, w < W → am_I (am_wI (am_wI M 126 r (nI (c + 1))) 134 (W - (k + 1)) ((1 : Int32) &&& 1)) 134 w = if w ∈ (W - (k + 1)) :: p then 1 else 0 := by
                intro w hw
                rw [rI_if]
                by_cases e : w = W - (k + 1)
                · rw [if_pos e, if_pos (by rw [e]; exact List.mem_cons_self)]; rfl
                · rw [if_neg e, rI_ne _ _ _ (by decide), n5 w hw]
                  by_cases z : w ∈ p
                  · rw [if_pos z, if_pos (List.mem_cons_of_mem _ z)]
                  · rw [if_neg z, if_neg (fun y => (List.mem_cons.mp y).elim e z)]
              have x9 : am_I (am_wI (am_wI M 126 r (nI (c + 1))) 134 (W - (k + 1)) ((1 : Int32) &&& 1)) 110 39 = 0 := by rw [rI_ne _ _ _ (by decide), rI_ne _ _ _ (by decide)]; exact n2
              have xo : OuM (am_wI (am_wI M 126 r (nI (c + 1))) 134 (W - (k + 1)) ((1 : Int32) &&& 1)) p.length (opN (nSz a b W n) (nW a b W n) p) := by
                unfold OuM
                have f01 : Fs [126, 134] M (am_wI (am_wI M 126 r (nI (c + 1))) 134 (W - (k + 1)) ((1 : Int32) &&& 1)) := fs_trans (fs_wI _ _ _ (by decide)) (fs_wI _ _ _ (by decide))
                rw [fs_I f01 (show 130 ∉ [126, 134] by decide), fs_I f01 (show 131 ∉ [126, 134] by decide), fs_I f01 (show 132 ∉ [126, 134] by decide)]
                exact n6
              have xs : SqM (am_wI (am_wI M 126 r (nI (c + 1))) 134 (W - (k + 1)) ((1 : Int32) &&& 1)) r p.length (fN (nSz a b W n) (nW a b W n) ((W - (k + 1)) :: p)) := by
                refine ⟨by rw [b1.2.2.2.2.2.1]; exact n7.1, fun j hj => ?_⟩
                rw [fn_old o7 hj]
                obtain ⟨y1, y2, y3⟩ := b1.2.2.2.2.2.2.1 j hj
                rw [y1, y2, y3]
                exact n7.2 j hj
              have n34 : NtS (am_wI (am_wI M 126 r (nI (c + 1))) 134 (W - (k + 1)) ((1 : Int32) &&& 1)) r a b W n := nts_fs b1.1 (by decide) (by decide) (by decide) (by decide) nt
              have s1 := fs_shp b1.1 s
              revert b1 x1 x5 x9 xo xs n34 s1
              generalize am_wI (am_wI M 126 r (nI (c + 1))) 134 (W - (k + 1)) ((1 : Int32) &&& 1) = M1
              intro b1 x1 x5 x9 xo xs n34 s1
              obtain ⟨M2, c1, c2, c3⟩ := sq_m (N := N) (x := nSz a b W n (W - (k + 1))) hN hr (show p.length < 40 by omega) (show p.length < 42 by omega) (by omega) o1 hdp s1 xo xs (fn_new o7)
              have b2 := gob_sq c2 xs c3
              have s2 := fs_shp c2.1 s1
              have xo2 : OuM M2 p.length (opN (nSz a b W n) (nW a b W n) p) := by
                unfold OuM
                rw [fs_I c2.1 (show 130 ∉ [117] by decide), fs_I c2.1 (show 131 ∉ [117] by decide), fs_I c2.1 (show 132 ∉ [117] by decide)]
                exact xo
              have w2 : am_I M2 110 35 = nI (nW a b W n) := by rw [b2.2.1 35 (by decide), b1.2.1 35 (by decide)]; exact n4
              obtain ⟨M3, e1, e2, e3⟩ := lo_m (N := N) (B := nH a b W n) hN (show p.length + 1 < 42 by omega) (by omega) o1 (by omega) (show 0 < nSz a b W n (W - (k + 1)) by omega) (show nSz a b W n (W - (k + 1)) ≤ wdO (opN (nSz a b W n) (nW a b W n) p) (nW a b W n) by omega) o4 (by omega) (by omega) s2 w2 xo2
              have b3 : GoB M2 M3 r p.length := gob_lv e2
              have s3 := fs_shp e2.1 s2
              have b13 := gob_trans b1 (gob_trans b2 b3 (Nat.le_refl _)) (Nat.le_refl _)
              have f23 : Fs [117, 130, 131, 132] M1 M3 := fs_trans (fs_mono c2.1 (by decide)) (fs_mono e2.1 (by decide))
              have ns3 : NsM M3 r W K (nW a b W n) (nSz a b W n) ((W - (k + 1)) :: p) (c + 1) := by
                refine ⟨by rw [fs_I f23 (by decide)]; exact x1, by rw [fs_I f23 (by decide)]; exact x9, by rw [b13.2.1 38 (by decide)]; exact n3, by rw [b13.2.1 35 (by decide)]; exact n4, fun w hw => by rw [fs_I f23 (by decide)]; exact x5 w hw, e3, ?_⟩
                refine ⟨by rw [fs_I e2.1 (by decide)]; exact c3.1, fun j hj => by rw [fs_I e2.1 (by decide)]; exact c3.2 j hj⟩
              have nt3 : NtS M3 r a b W n := nts_fs b13.1 (by decide) (by decide) (by decide) (by decide) nt
              obtain ⟨v, M4, g1, g2, g3⟩ := ih (W - (k + 1)) (c + 1) M3 wl fit (by omega) s3 nt3 ns3
              have s4 := fs_shp g2.1 s3
              have b14 := gob_trans b13 g2 (by omega)
              rw [c1, nk_bd, nk_k, sk110 s2, nk_dd, e1, nk_bd, nk_k, sk110 s3, nk_dd, nI_1, g1, nk_bd]
              rcases g3 with ⟨z1, z2, z3, z4⟩ | ⟨z1, z2, z3⟩ | ⟨z1, z2, z3, z4⟩
              · rw [z2, if_neg z_1, if_neg (by rw [z1]; decide)]
                exact ⟨1, M4, rfl, b14, Or.inl ⟨z1, rfl, z3, z4⟩⟩
              · rw [z2, if_pos rfl, if_pos z1, nk_k, sk110 s4, nk_dd, sr110_37 s4, nk_k, sk134 s4, nk_dd, sl134 s4, nk_in (show W - (k + 1) < 14 by omega) (by decide), nk_ck]
                obtain ⟨m1, m2, m3, m4, m5, m6, m7⟩ := z3
                have b5 : GoB M (am_wI M4 134 (W - (k + 1)) ((0 : Int32) &&& 1)) r p.length := gob_trans b14 (gob_34 M4 r p.length _ _) (Nat.le_refl _)
                have s5 := fs_shp b5.1 s
                have nt5 : NtS (am_wI M4 134 (W - (k + 1)) ((0 : Int32) &&& 1)) r a b W n := nts_fs b5.1 (by decide) (by decide) (by decide) (by decide) nt
                have ns5 : NsM (am_wI M4 134 (W - (k + 1)) ((0 : Int32) &&& 1)) r W K (nW a b W n) (nSz a b W n) p (gsF (fitB (nSz a b W n) (nSt a b W n) (nW a b W n) (nH a b W n)) W r' ((W - (k + 1)) :: p) (c + 1)).2.1 := by
                  refine ⟨by rw [rI_ne _ _ _ (by decide)]; exact m1, by rw [rI_ne _ _ _ (by decide)]; exact m2, by rw [rI_ne _ _ _ (by decide)]; exact m3, by rw [rI_ne _ _ _ (by decide)]; exact m4, fun w hw => ?_, ⟨by rw [b5.2.2.2.2.2.2.2.1 _ (by omega)]; exact n6.1, fun j hj => ?_⟩, by rw [b5.2.2.2.2.2.1]; exact n7.1, fun j hj => ?_⟩
                  · rw [rI_if]
                    by_cases e : w = W - (k + 1)
                    · rw [if_pos e, if_neg (by rw [e]; exact q1)]; rfl
                    · rw [if_neg e, m5 w hw]
                      by_cases z : w ∈ p
                      · rw [if_pos z, if_pos (List.mem_cons_of_mem _ z)]
                      · rw [if_neg z, if_neg (fun y => (List.mem_cons.mp y).elim e z)]
                  · obtain ⟨y1, y2⟩ := b5.2.2.2.2.2.2.2.2 (42 * p.length + j) (by omega)
                    rw [y1, y2]; exact n6.2 j hj
                  · obtain ⟨y1, y2, y3⟩ := b5.2.2.2.2.2.2.1 j hj
                    rw [y1, y2, y3]; exact n7.2 j hj
                have cc := gs_ok (f := fitB (nSz a b W n) (nSt a b W n) (nW a b W n) (nH a b W n)) (m := W) r' ((W - (k + 1)) :: p) (c + 1) ⟨pt, fit, wl⟩ (by omega)
                obtain ⟨v', M6, t1, t2, t3⟩ := ihk _ g _ (by omega) cc.2.1 (by omega) s5 nt5 ns5
                exact ⟨v', M6, t1, gob_trans b5 t2 (Nat.le_refl _), t3⟩
              · rw [z2, if_pos rfl, if_neg (by rw [z1]; decide), nk_k, sk110 s4, nk_dd, sr110_37 s4, nk_k, sk134 s4, nk_dd, sl134 s4, nk_in (show W - (k + 1) < 14 by omega) (by decide), nk_ck]
                have b5 : GoB M (am_wI M4 134 (W - (k + 1)) ((0 : Int32) &&& 1)) r p.length := gob_trans b14 (gob_34 M4 r p.length _ _) (Nat.le_refl _)
                have s5 := fs_shp b5.1 s
                have nt5 : NtS (am_wI M4 134 (W - (k + 1)) ((0 : Int32) &&& 1)) r a b W n := nts_fs b5.1 (by decide) (by decide) (by decide) (by decide) nt
                have o39 : am_I (am_wI M4 134 (W - (k + 1)) ((0 : Int32) &&& 1)) 110 39 = 1 := by rw [rI_ne _ _ _ (by decide)]; exact z4
                have o26 : am_I (am_wI M4 134 (W - (k + 1)) ((0 : Int32) &&& 1)) 126 r = nI (gsF (fitB (nSz a b W n) (nSt a b W n) (nW a b W n) (nH a b W n)) W r' ((W - (k + 1)) :: p) (c + 1)).2.1 := by rw [rI_ne _ _ _ (by decide)]; exact z3
                obtain ⟨g', rfl⟩ : ∃ g', g = g' + 1 := ⟨g - 1, by omega⟩
                refine ⟨0, _, ?_, b5, Or.inr (Or.inr ⟨z1, rfl, o26, o39⟩)⟩
                show fn12_goes_b33B N (fn12_goes N d) (fn12_goes_b33 N (fn12_goes N d) g') 110 (nI r) (nI p.length) _ _ (nI (W - k)) _ = _
                unfold fn12_goes_b33B fn12_goes_b192
                rw [nk_k, sk110 s5, nk_dd, sr110_25 s5, nk_k, sk123 s5, nk_dd, sl123 s5, nk_in hr (by decide), nk_ck, nI_clamp (show r < 2147483648 by omega), nt5.1.1, o39, if_neg z_1]
                by_cases u : W ≤ W - k
                · rw [if_pos (nI_le u (by omega))]
                · rw [if_neg (nI_ge (by omega) (by omega))]
          · rw [if_neg (fun z => q4 (cmp.mp z))]
            exact skip (fun z => q4 (fit_iff.mp z).2.2.2)
end
