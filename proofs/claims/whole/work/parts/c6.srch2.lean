section
variable {a b : Nat → Nat} {W n N u K : Nat}
theorem chc_at {M : am_Mem} (wp : 0 < nW a b W n) (hst : ∀ w, w < W → nSz a b W n w ≤ nSt a b W n w) : ∀ {p : List Nat}, ChC M (nSz a b W n) (nW a b W n) p → PtN (fitB (nSz a b W n) (nSt a b W n) (nW a b W n) (nH a b W n)) W p → ∀ j, j < p.length → ∃ x q, am_I M 42 j = nI x ∧ OuC M (44 + 3 * j) (opN (nSz a b W n) (nW a b W n) q) (nW a b W n) ∧ fN (nSz a b W n) (nW a b W n) p j = sqI (sqO (opN (nSz a b W n) (nW a b W n) q) (nSz a b W n x)) ∧ PtN (fitB (nSz a b W n) (nSt a b W n) (nW a b W n) (nH a b W n)) W q ∧ x < W ∧ q.length = j
  | [], _, _, j, hj => absurd hj (Nat.not_lt_zero j)
  | x :: p, ch, pt, j, hj => by
    rw [List.length_cons] at hj
    obtain ⟨_, _, _, _, _, _, o7⟩ := pt_okm wp hst p pt.1
    by_cases e : j = p.length
    · rw [e]
      exact ⟨x, p, ch.2.1, chc_top ch.1, fn_new o7, pt.1, pt.2.2, rfl⟩
    · obtain ⟨y, q, h1, h2, h3, h4, h5, h6⟩ := chc_at wp hst ch.1 pt.1 j (by omega)
      exact ⟨y, q, h1, h2, by rw [fn_old o7 (by omega)]; exact h3, h4, h5, h6⟩
/-- the draft filled -/
theorem fdr_c {p : List Nat} {M : am_Mem} (hN : 100000 ≤ N) (hu : 141 < u) (hn0 : 0 < n) (hW : W ≤ 14) (d0 : 0 < fD a b W n) (hK : K ≤ 14) (hp : p.length = K) (pt : PtN (fitB (nSz a b W n) (nSt a b W n) (nW a b W n) (nH a b W n)) W p) (s : Shp M) (nc : NcS M u a b W n K) (ch : ChC M (nSz a b W n) (nW a b W n) p) : ∃ M', fn4_fillDraft N M 39 u 89 = some ((), M') ∧ Fs (dW 89) M M' ∧ DrC M' 89 K (nI (nW a b W n)) (nI (nH a b W n)) (fN (nSz a b W n) (nW a b W n) p) := by
  have wp := nw_pos (a := a) (b := b) (W := W) hn0 d0
  have hst : ∀ w, w < W → nSz a b W n w ≤ nSt a b W n w := fun w hw => sz_st hn0 d0 w hw
  have at' := chc_at (M := M) wp hst ch pt
  obtain ⟨M1, a1, a2, a3⟩ := dr_begin (drt_89 s) (nI (nW a b W n)) (nI (nH a b W n)) (fN (nSz a b W n) (nW a b W n) p)
  have go : ∀ m j fuel M1, j + m = K → m < fuel → Fs (dW 89) M M1 → DrC M1 89 j (nI (nW a b W n)) (nI (nH a b W n)) (fN (nSz a b W n) (nW a b W n) p) → ∃ M', fn4_fillDraft_b14 N fuel 39 89 (nI j) M1 = some ((), M') ∧ Fs (dW 89) M M' ∧ DrC M' 89 K (nI (nW a b W n)) (nI (nH a b W n)) (fN (nSz a b W n) (nW a b W n) p) := by
    intro m
    induction m with
    | zero =>
      intro j fuel M1 hj hf f1 dc
      obtain ⟨g, rfl⟩ : ∃ g, fuel = g + 1 := ⟨fuel - 1, by omega⟩
      have e : j = K := by omega
      subst e
      refine ⟨M1, ?_, f1, dc⟩
      have s1 := fs_shp f1 s
      have k4 : am_I M1 39 4 = nI j := by rw [fs_I f1 (by decide)]; exact nc.2.2.2.2.2.2
      show fn4_fillDraft_b14B N (fn4_fillDraft_b14 N g) 39 89 (nI j) M1 = _
      unfold fn4_fillDraft_b14B
      rw [nk_k, sk39 s1, nk_dd, k4, if_pos (nI_le (Nat.le_refl j) (by omega))]
    | succ m ih =>
      intro j fuel M1 hj hf f1 dc
      obtain ⟨g, rfl⟩ : ∃ g, fuel = g + 1 := ⟨fuel - 1, by omega⟩
      have s1 := fs_shp f1 s
      have k4 : am_I M1 39 4 = nI K := by rw [fs_I f1 (by decide)]; exact nc.2.2.2.2.2.2
      obtain ⟨x, q, h1, h2, h3, h4, h5, h6⟩ := at' j (by omega)
      obtain ⟨o1, o2, o3, o4, o5, o6, o7⟩ := pt_okm wp hst q h4
      obtain ⟨r0, t0⟩ := s40t s1 (show j < 15 by omega)
      have oc : OuC M1 (44 + 3 * j) (opN (nSz a b W n) (nW a b W n) q) (nW a b W n) := by
        have f2 : ∀ y, y < 89 → am_I M1 y = am_I M y := fun y hy => fs_I f1 (by unfold dW; simp; omega)
        unfold OuC at h2 ⊢
        rw [f2 (44 + 3 * j) (by omega), f2 (44 + 3 * j + 1) (by omega), f2 (44 + 3 * j + 2) (by omega)]
        exact h2
      have ld : (opN (nSz a b W n) (nW a b W n) q).length ≤ 15 := by omega
      have lf := oc_left t0 (by decide) ld o1 oc
      have dp := oc_depth t0 (by decide) ld o1 oc
      have x42 : am_I M1 42 j = nI x := by rw [fs_I f1 (by decide)]; exact h1
      have x41 : am_I M1 41 x = nI (nSz a b W n x) := by rw [fs_I f1 (by decide)]; exact nc.2.2.2.2.2.1 x h5
      obtain ⟨M2, b1, b2, b3⟩ := dr_add (x := nI (bgO (opN (nSz a b W n) (nW a b W n) q) (ntO (opN (nSz a b W n) (nW a b W n) q)))) (y := nI (dpO (opN (nSz a b W n) (nW a b W n) q) (ntO (opN (nSz a b W n) (nW a b W n) q)))) (s := nI (nSz a b W n x)) (drt_89 s1) dc (show j < 40 by omega) h3
      have st : fn4_fillDraft_b14 N (g + 1) 39 89 (nI j) M1 = fn4_fillDraft_b14 N g 39 89 (nI (j + 1)) M2 := by
        show fn4_fillDraft_b14B N (fn4_fillDraft_b14 N g) 39 89 (nI j) M1 = _
        unfold fn4_fillDraft_b14B
        rw [nk_k, sk39 s1, nk_dd, k4, if_neg (nI_ge (by omega) (by omega)), sr39_0 s1, nk_k, sk40 s1, nk_dd, sl40 s1, nk_in (show j < 15 by omega) (by decide), nk_ck, nI_clamp (show j < 2147483648 by omega), r0, nk_k, t0.1, nk_dd, lf, nk_bd, nk_k, sk39 s1, nk_dd, sr39_0 s1, nk_k, sk40 s1, nk_dd, sl40 s1, nk_in (show j < 15 by omega) (by decide), nk_ck, r0, nk_k, t0.1, nk_dd, dp, nk_bd, nk_k, sk39 s1, nk_dd, sr39_2 s1, nk_k, sk42 s1, nk_dd, sl42 s1, nk_in (show j < 14 by omega) (by decide), nk_ck, sr39_1 s1, nk_k, sk41 s1, nk_dd, sl41 s1, x42, nk_in (show x < 14 by omega) (by decide), nk_ck, nI_clamp (show x < 2147483648 by omega), x41, nk_k, sk89 s1, nk_dd, b1, nk_bd, nI_1]
      rw [st]
      exact ih (j + 1) g M2 (by omega) (by omega) (fs_trans f1 b2) b3
  obtain ⟨M', c1, c2, c3⟩ := go K 0 N M1 (by omega) (by omega) a2 a3
  refine ⟨M', ?_, c2, c3⟩
  unfold fn4_fillDraft fn4_fillDraft_b0
  rw [nk_k, nc.1.2.2.1, nk_dd, nk_k, sk89 s, nk_dd, nc.2.2.1, nc.2.2.2.1, a1, nk_bd]
  exact c1
/-- what the class's search comes to -/
def SeE (M M' : am_Mem) (u K : Nat) (a b : Nat → Nat) (W n : Nat) (v : Int32) (q : Rs) : Prop := Fs (scW u) M M' ∧ (∀ y, ¬ y = 7 → am_I M' u y = am_I M u y) ∧ am_J M' u = am_J M u ∧ am_I M' u 7 = nI q.2.1 ∧ ((q.1 = 1 ∧ v = 1 ∧ DrC M' 89 K (nI (nW a b W n)) (nI (nH a b W n)) (fN (nSz a b W n) (nW a b W n) q.2.2)) ∨ (¬ q.1 = 1 ∧ v = 0))
theorem see_trans {M M1 M2 : am_Mem} {v : Int32} {q : Rs} (f : Fs (scW u) M M1) (o : ∀ y, ¬ y = 7 → am_I M1 u y = am_I M u y) (j : am_J M1 u = am_J M u) (h : SeE M1 M2 u K a b W n v q) : SeE M M2 u K a b W n v q :=
  ⟨fs_trans f h.1, fun y hy => (h.2.1 y hy).trans (o y hy), h.2.2.1.trans j, h.2.2.2.1, h.2.2.2.2⟩
theorem se_c (hN : 100000 ≤ N) (hu : 141 < u) (hn0 : 0 < n) (hW : W ≤ 14) (d0 : 0 < fD a b W n) (hK : K ≤ 14) : ∀ t (p : List Nat) w c x fuel M, 2 * (20000 - c) + p.length ≤ t → t + x + 1 ≤ 40002 → t + 1 < fuel → c ≤ 20000 → w ≤ W → p.length ≤ K → PtN (fitB (nSz a b W n) (nSt a b W n) (nW a b W n) (nH a b W n)) W p → Shp M → NcS M u a b W n K → ChC M (nSz a b W n) (nW a b W n) p → (∀ w, w < W → am_I M 43 w = if w ∈ p then 1 else 0) → am_I M u 7 = nI c → ∃ v M', fn4_search_b27 N fuel 39 u 38 89 (nI p.length) (nI w) (nI x) M = some (v, M') ∧ SeE M M' u K a b W n v (cfg (fitB (nSz a b W n) (nSt a b W n) (nW a b W n) (nH a b W n)) W K p w c) := by
  have core : ∀ t, (∀ t', t' < t → ∀ (p : List Nat) w c x fuel M, 2 * (20000 - c) + p.length ≤ t' → t' + x + 1 ≤ 40002 → t' + 1 < fuel → c ≤ 20000 → w ≤ W → p.length ≤ K → PtN (fitB (nSz a b W n) (nSt a b W n) (nW a b W n) (nH a b W n)) W p → Shp M → NcS M u a b W n K → ChC M (nSz a b W n) (nW a b W n) p → (∀ w, w < W → am_I M 43 w = if w ∈ p then 1 else 0) → am_I M u 7 = nI c → ∃ v M', fn4_search_b27 N fuel 39 u 38 89 (nI p.length) (nI w) (nI x) M = some (v, M') ∧ SeE M M' u K a b W n v (cfg (fitB (nSz a b W n) (nSt a b W n) (nW a b W n) (nH a b W n)) W K p w c)) → ∀ (p : List Nat) w c x fuel M, 2 * (20000 - c) + p.length ≤ t → t + x + 1 ≤ 40002 → t + 1 < fuel → c ≤ 20000 → w ≤ W → p.length ≤ K → PtN (fitB (nSz a b W n) (nSt a b W n) (nW a b W n) (nH a b W n)) W p → Shp M → NcS M u a b W n K → ChC M (nSz a b W n) (nW a b W n) p → (∀ w, w < W → am_I M 43 w = if w ∈ p then 1 else 0) → am_I M u 7 = nI c → ∃ v M', fn4_search_b27 N fuel 39 u 38 89 (nI p.length) (nI w) (nI x) M = some (v, M') ∧ SeE M M' u K a b W n v (cfg (fitB (nSz a b W n) (nSt a b W n) (nW a b W n) (nH a b W n)) W K p w c) := by
    intro t ih p w c x fuel M ht hx hf hc hw hp pt s nc ch us e7
    obtain ⟨g, rfl⟩ : ∃ g, fuel = g + 1 := ⟨fuel - 1, by omega⟩
    obtain ⟨c1, c2, c3, c4, c5, c6, c7⟩ := id nc
    have hd : fn4_search_b27 N (g + 1) 39 u 38 89 (nI p.length) (nI w) (nI x) M = fn4_search_b27B N (fn4_search_b27 N g) 39 u 38 89 (nI p.length) (nI w) (nI x) M := rfl
    have nx : ¬ (40002 : Int32) ≤ nI x := nI_ge (b := 40002) (by omega) (by decide)
    by_cases pk : p.length = K
    · obtain ⟨M', a1, a2, a3⟩ := fdr_c (N := N) hN hu hn0 hW d0 hK pk pt s nc ch
      have ec : cfg (fitB (nSz a b W n) (nSt a b W n) (nW a b W n) (nH a b W n)) W K p w c = (1, c, p) := if_pos pk
      rw [ec]
      refine ⟨1, M', ?_, fs_mono a2 (fun y hy => ?_), fun y _ => ?_, ?_, ?_, Or.inl ⟨rfl, rfl, a3⟩⟩
      · rw [hd]
        unfold fn4_search_b27B fn4_search_b140
        rw [if_neg nx, nk_k, sk39 s, nk_dd, c7, if_pos (nI_le (by omega) (by omega)), nk_dd, if_pos (nI_le (by omega) (by omega)), a1, nk_bd]
      · unfold dW at hy
        simp only [List.mem_cons, List.not_mem_nil, or_false] at hy
        exact scW_in (by omega) (by omega)
      · rw [fs_I a2 (by unfold dW; simp; omega)]
      · exact fs_J a2 (by unfold dW; simp; omega)
      · rw [fs_I a2 (by unfold dW; simp; omega)]; exact e7
    · obtain ⟨v, b1, b2⟩ := nf_c (N := N) hN hn0 hW d0 (show p.length ≤ 14 by omega) pt s nc ch us hw
      have st : fn4_search_b27 N (g + 1) 39 u 38 89 (nI p.length) (nI w) (nI x) M = (if v = (-1 : Int32) then if nI p.length = 0 then some ((0 : Int32), M) else am_ck (am_k M 39 4) (am_ck (am_k M (am_R M 39 2) 14) (am_ck (am_in (nI p.length + (-1 : Int32)) (am_L M (am_R M 39 2))) (am_ck (am_k M (am_R M 39 3) 16) (am_ck (am_in (am_I M (am_R M 39 2) (nI p.length + (-1 : Int32)).toNatClampNeg) (am_L M (am_R M 39 3))) (am_ck (am_in (nI p.length + (-1 : Int32)) (am_L M (am_R M 39 2))) (fn4_search_b134 N (fn4_search_b27 N g) 39 u 38 89 (nI p.length + (-1 : Int32)) ((am_I (am_wI M (am_R M 39 3) (am_I M (am_R M 39 2) (nI p.length + (-1 : Int32)).toNatClampNeg).toNatClampNeg ((0 : Int32) &&& 1)) (am_R M 39 2) (nI p.length + (-1 : Int32)).toNatClampNeg) + (1 : Int32)) (nI x) (am_wI M (am_R M 39 3) (am_I M (am_R M 39 2) (nI p.length + (-1 : Int32)).toNatClampNeg).toNatClampNeg ((0 : Int32) &&& 1)))))))) else am_ck (am_k M u 3) (if (am_I M u 7) < (20000 : Int32) then am_ck (am_k M 39 4) (am_bd (fn4_layWire N (am_wI M u 7 ((am_I M u 7) + (1 : Int32))) 39 v (nI p.length)) (fun v13 M14 => fn4_search_b134 N (fn4_search_b27 N g) 39 u 38 89 (nI p.length + (1 : Int32)) (0 : Int32) (nI x) M14)) else some ((0 : Int32), M))) := by
        rw [hd]
        unfold fn4_search_b27B
        rw [if_neg nx, nk_k, sk39 s, nk_dd, c7, if_neg (nI_ge (by omega) (by omega)), b1, nk_bd, nk_k, sk39 s]
      rw [st]
      rcases b2 with ⟨v1, nf⟩ | ⟨y, y1, y2, v1, fit, nf⟩
      · rw [if_pos v1, cfg_none (by omega) hw nf]
        cases p with
        | nil =>
          rw [if_pos (show nI ([] : List Nat).length = (0 : Int32) from rfl)]
          exact ⟨0, M, rfl, fs_refl _ _, fun _ _ => rfl, rfl, e7, Or.inr ⟨show ¬ 0 = 1 by decide, rfl⟩⟩
        | cons y p =>
          rw [cfg_pop (by rw [List.length_cons] at hp; omega)]
          rw [List.length_cons] at ht hp pk ⊢
          have yW := pt.2.2
          have yn := (fit_iff.mp pt.2.1).1
          have f1 : Fs (scW u) M (am_wI M 43 y ((0 : Int32) &&& 1)) := fs_wI _ _ _ (scW_in (by decide) (by decide))
          have o1 : ∀ z, ¬ z = 43 → am_I (am_wI M 43 y ((0 : Int32) &&& 1)) z = am_I M z := fun z hz => by rw [rI_ne _ _ _ hz]
          have us1 : ∀ w, w < W → am_I (am_wI M 43 y ((0 : Int32) &&& 1)) 43 w = if w ∈ p then 1 else 0 := fun w hw => by
            rw [rI_if]
            by_cases e : w = y
            · rw [if_pos e, if_neg (by rw [e]; exact yn)]; rfl
            · rw [if_neg e, us w hw]
              by_cases z : w ∈ p
              · rw [if_pos z, if_pos (List.mem_cons_of_mem _ z)]
              · rw [if_neg z, if_neg (fun q => (List.mem_cons.mp q).elim e z)]
          have ch1 : ChC (am_wI M 43 y ((0 : Int32) &&& 1)) (nSz a b W n) (nW a b W n) p := chc_keep (fun z h1 _ => o1 z (by omega)) (fun j _ => by rw [o1 42 (by decide)]) ch.1
          obtain ⟨v', M', r1, r2⟩ := ih (t - 1) (by omega) p (y + 1) c (x + 1) g (am_wI M 43 y ((0 : Int32) &&& 1)) (by omega) (by omega) (by omega) hc (by omega) (by omega) pt.1 (fs_shp f1 s) (ncs_keep f1 hu (fun z _ => by rw [o1 u (by omega)]) nc) ch1 us1 (by rw [o1 u (by omega)]; exact e7)
          refine ⟨v', M', ?_, see_trans f1 (fun z _ => by rw [o1 u (by omega)]) (by rw [qJ_wI]) r2⟩
          have em : nI (p.length + 1) + (-1 : Int32) = nI p.length := nI_m1 _
          unfold fn4_search_b134
          rw [if_neg (show ¬ nI (p.length + 1) = (0 : Int32) from fun z => by have := nI_inj (b := 0) (by omega) (by decide) z; omega), nk_k, sk39 s, nk_dd, sr39_2 s, nk_k, sk42 s, nk_dd, sl42 s, em, nk_in (show p.length < 14 by omega) (by decide), nk_ck, sr39_3 s, nk_k, sk43 s, nk_dd, sl43 s, nI_clamp (show p.length < 2147483648 by omega), ch.2.1, nk_in (show y < 14 by omega) (by decide), nk_ck, nk_ck, nI_clamp (show y < 2147483648 by omega), o1 42 (by decide), ch.2.1, nI_1, nI_1]
          exact r1
      · have yn1 : ¬ nI y = (-1 : Int32) := fun e => by
          have := congrArg Int32.toInt e
          rw [nI_toInt (by omega), show (-1 : Int32).toInt = -1 from rfl] at this
          omega
        rw [v1, if_neg yn1, nk_k, c1.2.2.1, nk_dd, e7]
        by_cases q5 : c = 20000
        · rw [if_neg (show ¬ nI c < (20000 : Int32) from i32_nl (b := 20000) (by omega) (by decide) (by omega)), cfg_over (by omega) y1 y2 fit nf q5]
          exact ⟨0, M, rfl, fs_refl _ _, fun _ _ => rfl, rfl, e7, Or.inr ⟨show ¬ 2 = 1 by decide, rfl⟩⟩
        · rw [if_pos (show nI c < (20000 : Int32) from nI_lt (b := 20000) (by omega) (by decide)), cfg_lay (by omega) y1 y2 fit nf q5, nI_1, nk_k, sk39 s, nk_dd]
          have f1 : Fs (scW u) M (am_wI M u 7 (nI (c + 1))) := fs_wI _ _ _ List.mem_cons_self
          have o1 : ∀ z, ¬ z = u → am_I (am_wI M u 7 (nI (c + 1))) z = am_I M z := fun z hz => by rw [rI_ne _ _ _ hz]
          have o7 : ∀ z, ¬ z = 7 → am_I (am_wI M u 7 (nI (c + 1))) u z = am_I M u z := fun z hz => by rw [rI_ix _ _ _ hz]
          have e71 : am_I (am_wI M u 7 (nI (c + 1))) u 7 = nI (c + 1) := rI_eq _ _ _ _
          have j1 : am_J (am_wI M u 7 (nI (c + 1))) u = am_J M u := by rw [qJ_wI]
          revert f1 o1 o7 e71 j1
          generalize am_wI M u 7 (nI (c + 1)) = M1
          intro f1 o1 o7 e71 j1
          have s1 := fs_shp f1 s
          have nc1 := ncs_keep f1 hu o7 nc
          have ch1 : ChC M1 (nSz a b W n) (nW a b W n) p := chc_keep (fun z _ h2 => o1 z (by omega)) (fun j _ => by rw [o1 42 (by omega)]) ch
          obtain ⟨M2, d1, d2, d3, d4, d5, d6⟩ := lw_c (N := N) (K := K) hN hu hn0 hW d0 (show p.length < 14 by omega) pt y2 fit s1 nc1 ch1 (fun w hw => by rw [o1 43 (by omega)]; exact us w hw)
          have s2 := fs_shp d2 s1
          obtain ⟨v', M', r1, r2⟩ := ih (t - 1) (by omega) (y :: p) 0 (c + 1) (x + 1) g M2 (by rw [List.length_cons]; omega) (by omega) (by omega) (by omega) (Nat.zero_le W) (by rw [List.length_cons]; omega) ⟨pt, fit, y2⟩ s2 (ncs_keep d2 hu (fun z _ => by rw [d3]) nc1) d5 d6 (by rw [d3]; exact e71)
          refine ⟨v', M', ?_, see_trans (fs_trans f1 d2) (fun z hz => by rw [d3]; exact o7 z hz) (d4.trans j1) r2⟩
          rw [d1, nk_bd]
          unfold fn4_search_b134
          rw [nI_1, nI_1]
          rw [List.length_cons] at r1
          exact r1
  intro t
  induction t using Nat.strongRecOn with
  | ind t ih => exact core t ih
/-- the class's search -/
theorem sc_c {M : am_Mem} (hN : 100000 ≤ N) (hu : 141 < u) (hn0 : 0 < n) (hW : W ≤ 14) (d0 : 0 < fD a b W n) (s : Shp M) (t : NtT M u n W) (e1 : am_I M u 1 = nI W) (e7 : am_I M u 7 = nI 0) (fl : FlC M u a b W n) (h38 : ∀ x, x < W → am_I M 38 x = iI (fS a b W n x)) : ∃ v M', fn4_search N M 39 u 38 89 = some (v, M') ∧ Fs (39 :: 41 :: scW u) M M' ∧ (∀ y, ¬ y = 7 → am_I M' u y = am_I M u y) ∧ am_J M' u = am_J M u ∧ am_I M' u 7 = nI (srN a b W n).2.1 ∧ (((srN a b W n).1 = 1 ∧ v = 1 ∧ DrC M' 89 (cnN (nSz a b W n) W) (nI (nW a b W n)) (nI (nH a b W n)) (fN (nSz a b W n) (nW a b W n) (srN a b W n).2.2)) ∨ (¬ (srN a b W n).1 = 1 ∧ v = 0)) := by
  have g0 : ¬ fG a b W n W = 0 := by have := fg_pos (a := a) (b := b) (W := W) hn0 d0; omega
  have wp := nw_pos (a := a) (b := b) (W := W) hn0 d0
  have gp := fg_pos (a := a) (b := b) (W := W) hn0 d0
  have cl := cn_m (nSz a b W n) W
  have f0 : Fs [39, 41, 43] M (am_wI M 39 4 0) := fs_wI _ _ _ (by decide)
  have t0 := ntt_fs f0 t
  obtain ⟨M1, a1, a2, a3, a4⟩ := ts_l (N := N) (u := u) hW g0 W 0 N (am_wI M 39 4 0) (by omega) (by omega) (fs_shp f0 s) t0 (by rw [fs_I f0 (by simp; omega)]; exact e1) (fun x hx => by rw [fs_I f0 (by simp; omega)]; exact fl.2.1 x hx) (fun x hx => absurd hx (Nat.not_lt_zero x)) (rI_eq _ _ _ _)
  have f1 : Fs [39, 41, 43] M M1 := fs_trans f0 a2
  have s1 := fs_shp f1 s
  have ku : am_I M1 u = am_I M u := fs_I f1 (by simp; omega)
  have kJ : am_J M1 u = am_J M u := fs_J f1 (by simp; omega)
  have ewd : am_I M1 u 5 = nI (nW a b W n) := by
    rw [ku, fl.2.2.1]
    exact ii_nn (Int.ediv_nonneg (by omega) (by omega))
  have ehh : am_I M1 u 6 = nI (nH a b W n) := by
    rw [ku, fl.2.2.2]
    exact ii_nn (fl_nn hn0 d0 0)
  obtain ⟨r40, t40⟩ := s40t s1 (show 0 < 15 by decide)
  obtain ⟨M2, b1, b2, b3⟩ := oc_open (W := nW a b W n) t40 (by decide) (by decide)
  have s2 := fs_shp b2 s1
  have f2 : Fs (scW u) M1 M2 := fs_mono b2 (fun y hy => by
    simp only [List.mem_cons, List.not_mem_nil, or_false] at hy
    exact scW_in (by omega) (by omega))
  have ku2 : am_I M2 u = am_I M1 u := fs_I b2 (by simp; omega)
  have kJ2 : am_J M2 u = am_J M1 u := fs_J b2 (by simp; omega)
  have nc1 : NcS M1 u a b W n (cnN (nSz a b W n) W) := ⟨ntt_fs f1 t, by rw [ku]; exact e1, ewd, ehh, fun x hx => by rw [fs_I f1 (by decide)]; exact h38 x hx, fun x hx => (a3 x hx).1, a4⟩
  have nc2 : NcS M2 u a b W n (cnN (nSz a b W n) W) := ncs_keep f2 hu (fun y _ => by rw [ku2]) nc1
  have st : fn4_search N M 39 u 38 89 = fn4_search_b27 N N 39 u 38 89 (nI 0) (nI 0) (nI 0) M2 := by
    unfold fn4_search fn4_search_b0
    have a1' : fn4_takeSizes N M 39 u = some ((), M1) := by
      unfold fn4_takeSizes fn4_takeSizes_b0
      rw [nk_k, sk39 s, nk_dd]
      exact a1
    have b1' : fn6_open M1 (44 + 3 * 0) (nI (nW a b W n)) = some ((), M2) := b1
    rw [nk_k, sk39 s, nk_dd, a1', nk_bd, nk_k, sk39 s1, nk_dd, sr39_0 s1, nk_k, sk40 s1, nk_dd, sl40 s1, show am_in (0 : Int32) 15 = true from rfl, nk_ck, nk_k, nc1.1.2.2.1, nk_dd, show (0 : Int32).toNatClampNeg = 0 from rfl, r40, nk_k, t40.1, nk_dd, ewd, b1', nk_bd]
    rfl
  rw [st]
  obtain ⟨v, M3, c1, c2⟩ := se_c (N := N) (u := u) (K := cnN (nSz a b W n) W) hN hu hn0 hW d0 (by omega) 40000 [] 0 0 0 N M2 (by decide) (by decide) (by omega) (by decide) (Nat.zero_le W) (Nat.zero_le _) trivial s2 nc2 b3 (fun w hw => by
    rw [if_neg List.not_mem_nil, fs_I b2 (by decide)]; exact (a3 w hw).2) (by rw [ku2, ku]; exact e7)
  have kp : 0 < cnN (nSz a b W n) W := by
    refine Classical.byContradiction (fun z => ?_)
    have sc := sol_cur hn0 (f_sol (a := a) (b := b) (W := W) hn0)
    rw [sm_zero (fun w hw => ?_)] at sc
    · omega
    · have : ∀ m, cnN (nSz a b W n) m = 0 → ∀ x, x < m → nSz a b W n x = 0 := by
        intro m
        induction m with
        | zero => exact fun _ x hx => absurd hx (Nat.not_lt_zero x)
        | succ m ihm =>
          intro h0 x hx
          have h0' : cnN (nSz a b W n) m + (if 0 < nSz a b W n m then 1 else 0) = 0 := h0
          by_cases e : x = m
          · rw [e]
            refine Classical.byContradiction (fun q => ?_)
            rw [if_pos (by omega)] at h0'
            omega
          · exact ihm (by omega) x (by omega)
      have z0 := this W (by omega) w hw
      unfold nSz at z0
      have z1 : fI a b W n w = 0 := by omega
      have z2 : fC a b W n w = 0 := by
        obtain ⟨k, ek⟩ := fg_dvdI (a := a) (b := b) (W := W) (n := n) hw
        unfold fI at z1
        rw [ek, Int.mul_ediv_cancel_left _ (by omega)] at z1
        rw [ek, z1, Int.mul_zero]
      show dl a b w 0 * fC a b W n w = 0
      rw [z2, Int.mul_zero]
  have ec : cfg (fitB (nSz a b W n) (nSt a b W n) (nW a b W n) (nH a b W n)) W (cnN (nSz a b W n) W) [] 0 0 = srN a b W n := cfg_top kp
  rw [ec] at c2
  obtain ⟨q1, q2, q3, q4, q5⟩ := c2
  refine ⟨v, M3, c1, fs_trans (fs_mono f1 (fun y hy => ?_)) (fs_trans (fs_mono f2 (fun y hy => List.mem_cons_of_mem _ (List.mem_cons_of_mem _ hy))) (fs_mono q1 (fun y hy => List.mem_cons_of_mem _ (List.mem_cons_of_mem _ hy)))), fun y hy => by rw [q2 y hy, ku2, ku], by rw [q3, kJ2, kJ], q4, q5⟩
  simp only [List.mem_cons, List.not_mem_nil, or_false] at hy
  rcases hy with hy | hy | hy
  · rw [hy]; exact List.mem_cons_self
  · rw [hy]; exact List.mem_cons_of_mem _ List.mem_cons_self
  · rw [hy]; exact List.mem_cons_of_mem _ (List.mem_cons_of_mem _ (scW_in (by decide) (by decide)))
end
