theorem rI_cpn (M : am_Mem) {a0 a1 : Nat} (sp dp n : Nat) {b : Nat} (h : ¬ b = a1) : am_I (am_cpy M a0 a1 sp dp n) b = am_I M b := am_u1_ne _ _ h
theorem rI_cp (M : am_Mem) (a0 a1 sp dp n k : Nat) : am_I (am_cpy M a0 a1 sp dp n) a1 k = if dp ≤ k ∧ k < dp + n then am_I M a0 (sp + (k - dp)) else am_I M a1 k := by
  have : am_I (am_cpy M a0 a1 sp dp n) a1 = va_cpy (am_I M a0) (am_I M a1) sp dp n := am_u1_eq _ _ _
  rw [this]
  rfl
theorem fs_cp {W : List Nat} (M : am_Mem) {a0 a1 : Nat} (sp dp n : Nat) (h : a1 ∈ W) : Fs W M (am_cpy M a0 a1 sp dp n) := ⟨rfl, rfl, rfl, rfl, fun b hb => ⟨rI_cpn M sp dp n (fun e => hb (by rw [e]; exact h)), rfl⟩⟩
/-- the outlines of the class's search -/
theorem s40t {M : am_Mem} (s : Shp M) {t : Nat} (ht : t < 15) : am_R M 40 t = 44 + 3 * t ∧ OuT M (44 + 3 * t) 15 := by
  match t, ht with
  | 0, _ => exact ⟨sr40_0 s, sk44 s, sr44_0 s, sr44_1 s, sk45 s, sk46 s, sl45 s, sl46 s⟩
  | 1, _ => exact ⟨sr40_1 s, sk47 s, sr47_0 s, sr47_1 s, sk48 s, sk49 s, sl48 s, sl49 s⟩
  | 2, _ => exact ⟨sr40_2 s, sk50 s, sr50_0 s, sr50_1 s, sk51 s, sk52 s, sl51 s, sl52 s⟩
  | 3, _ => exact ⟨sr40_3 s, sk53 s, sr53_0 s, sr53_1 s, sk54 s, sk55 s, sl54 s, sl55 s⟩
  | 4, _ => exact ⟨sr40_4 s, sk56 s, sr56_0 s, sr56_1 s, sk57 s, sk58 s, sl57 s, sl58 s⟩
  | 5, _ => exact ⟨sr40_5 s, sk59 s, sr59_0 s, sr59_1 s, sk60 s, sk61 s, sl60 s, sl61 s⟩
  | 6, _ => exact ⟨sr40_6 s, sk62 s, sr62_0 s, sr62_1 s, sk63 s, sk64 s, sl63 s, sl64 s⟩
  | 7, _ => exact ⟨sr40_7 s, sk65 s, sr65_0 s, sr65_1 s, sk66 s, sk67 s, sl66 s, sl67 s⟩
  | 8, _ => exact ⟨sr40_8 s, sk68 s, sr68_0 s, sr68_1 s, sk69 s, sk70 s, sl69 s, sl70 s⟩
  | 9, _ => exact ⟨sr40_9 s, sk71 s, sr71_0 s, sr71_1 s, sk72 s, sk73 s, sl72 s, sl73 s⟩
  | 10, _ => exact ⟨sr40_10 s, sk74 s, sr74_0 s, sr74_1 s, sk75 s, sk76 s, sl75 s, sl76 s⟩
  | 11, _ => exact ⟨sr40_11 s, sk77 s, sr77_0 s, sr77_1 s, sk78 s, sk79 s, sl78 s, sl79 s⟩
  | 12, _ => exact ⟨sr40_12 s, sk80 s, sr80_0 s, sr80_1 s, sk81 s, sk82 s, sl81 s, sl82 s⟩
  | 13, _ => exact ⟨sr40_13 s, sk83 s, sr83_0 s, sr83_1 s, sk84 s, sk85 s, sl84 s, sl85 s⟩
  | 14, _ => exact ⟨sr40_14 s, sk86 s, sr86_0 s, sr86_1 s, sk87 s, sk88 s, sl87 s, sl88 s⟩
theorem cf_c {M : am_Mem} {o o' W : Nat} {O : Ou} (t : OuT M o 15) (t' : OuT M o' 15) (hl : O.length ≤ 15) (h1 : o + 3 ≤ o') (c : OuC M o O W) : ∃ M', fn6_copyFrom M o' o = some ((), M') ∧ Fs [o', o' + 1, o' + 2] M M' ∧ OuC M' o' O W := by
  obtain ⟨t1, t2, t3, t4, t5, t6, t7⟩ := t
  obtain ⟨u1, u2, u3, u4, u5, u6, u7⟩ := t'
  have mn : (if (Int32.ofNat 15) < nI O.length then (Int32.ofNat 15) else nI O.length) = nI O.length := if_neg (show ¬ nI 15 < nI O.length from i32_nl (by omega) (by omega) (by omega))
  have c0 : am_cnt (0 : Int32) 15 = true := nk_cnt (n := 0) (by decide) (by decide)
  have cl : am_cnt (nI O.length) 15 = true := nk_cnt hl (by decide)
  have kl : (nI O.length).toNatClampNeg = O.length := nI_clamp (by omega)
  have dc : decide (0 + O.length ≤ 15) = true := decide_eq_true (by omega)
  have n1 : ¬ o = o' := by omega
  have n2 : ¬ 3 = 2 := by decide
  have n3 : ¬ o' = o' + 1 := by omega
  refine ⟨am_cpy (am_cpy (am_wI (am_wI M o' 3 (nI O.length)) o' 2 (nI (ntO O))) (o + 1) (o' + 1) 0 0 O.length) (o + 2) (o' + 2) 0 0 O.length, ?_, fs_trans (fs_trans (fs_trans (fs_wI _ _ _ (by simp)) (fs_wI _ _ _ (by simp))) (fs_cp _ _ _ _ (by simp))) (fs_cp _ _ _ _ (by simp)), ?_, ?_, fun k hk => ⟨?_, ?_⟩⟩
  · unfold fn6_copyFrom fn6_copyFrom_b0
    simp only [nk_k, t1, u1, eq_self, decide_true, nk_ck, t2, t3, t4, t5, t6, t7, u2, u3, u4, u5, u6, u7, c.2.1, mn, c0, rI_ne _ _ _ n1, c.1, rI_ix _ _ _ n2, rI_eq, cl, kl, show (0 : Int32).toNatClampNeg = 0 from rfl, dc, rI_cpn _ _ _ _ n3]
  · rw [rI_cpn _ _ _ _ (by omega), rI_cpn _ _ _ _ (by omega), rI_eq]
  · rw [rI_cpn _ _ _ _ (by omega), rI_cpn _ _ _ _ (by omega), rI_ix _ _ _ (by decide), rI_eq]
  · rw [rI_cpn _ _ _ _ (by omega), rI_cp, if_pos ⟨Nat.zero_le k, by omega⟩, rI_ne _ _ _ (by omega), rI_ne _ _ _ (by omega), show 0 + (k - 0) = k by omega]
    exact (c.2.2 k hk).1
  · rw [rI_cp, if_pos ⟨Nat.zero_le k, by omega⟩, rI_cpn _ _ _ _ (by omega), rI_ne _ _ _ (by omega), rI_ne _ _ _ (by omega), show 0 + (k - 0) = k by omega]
    exact (c.2.2 k hk).2
section
variable {a b : Nat → Nat} {W n N u : Nat}
/-- the net's sizes taken -/
theorem ts_l (hW : W ≤ 14) (g0 : ¬ fG a b W n W = 0) : ∀ m w fuel M, w + m = W → m < fuel → Shp M → NtT M u n W → am_I M u 1 = nI W → (∀ x, x < W → am_I M (u + 2) x = iI (fI a b W n x)) → (∀ x, x < w → am_I M 41 x = nI (nSz a b W n x) ∧ am_I M 43 x = 0) → am_I M 39 4 = nI (cnN (nSz a b W n) w) → ∃ M', fn4_takeSizes_b7 N fuel 39 u (nI w) M = some ((), M') ∧ Fs [39, 41, 43] M M' ∧ (∀ x, x < W → am_I M' 41 x = nI (nSz a b W n x) ∧ am_I M' 43 x = 0) ∧ am_I M' 39 4 = nI (cnN (nSz a b W n) W) := by
  intro m
  induction m with
  | zero =>
    intro w fuel M hw hf s t e1 hi h1 h2
    obtain ⟨g, rfl⟩ : ∃ g, fuel = g + 1 := ⟨fuel - 1, by omega⟩
    have e : w = W := by omega
    subst e
    refine ⟨M, ?_, fs_refl _ _, h1, h2⟩
    show fn4_takeSizes_b7B N (fn4_takeSizes_b7 N g) 39 u (nI w) M = _
    unfold fn4_takeSizes_b7B
    rw [nk_k, t.2.2.1, nk_dd, e1, if_pos (nI_le (Nat.le_refl w) (by omega))]
  | succ m ih =>
    intro w fuel M hw hf s t e1 hi h1 h2
    obtain ⟨g, rfl⟩ : ∃ g, fuel = g + 1 := ⟨fuel - 1, by omega⟩
    obtain ⟨t1, t2, t3, t4, t5, t6, t7, t8, t9⟩ := id t
    have il := fi_le (a := a) (b := b) (n := n) hW g0 w (by omega)
    have cl := cn_m (nSz a b W n) w
    have cw : (nI w).toNatClampNeg = w := nI_clamp (by omega)
    have j1 : am_in (nI w) 14 = true := nk_in (by omega) (by decide)
    have j2 : am_in (nI w) W = true := nk_in (by omega) (by omega)
    have ab : (if 0 ≤ iI (fI a b W n w) then iI (fI a b W n w) else 0 - iI (fI a b W n w)) = nI (nSz a b W n w) := ii_abs (by omega)
    have n1 : ¬ 41 = 43 := by decide
    have n2 : ¬ 39 = 43 := by decide
    have n3 : ¬ 39 = 41 := by decide
    have st : fn4_takeSizes_b7 N (g + 1) 39 u (nI w) M = fn4_takeSizes_b7 N g 39 u (nI (w + 1)) (am_wI (am_wI (am_wI M 41 w (nI (nSz a b W n w))) 43 w ((0 : Int32) &&& 1)) 39 4 (nI (cnN (nSz a b W n) (w + 1)))) := by
      show fn4_takeSizes_b7B N (fn4_takeSizes_b7 N g) 39 u (nI w) M = _
      unfold fn4_takeSizes_b7B fn4_takeSizes_b56
      have es : cnN (nSz a b W n) (w + 1) = cnN (nSz a b W n) w + (if 0 < nSz a b W n w then 1 else 0) := rfl
      rw [nk_k, t3, nk_dd, e1, if_neg (nI_ge (by omega) (by omega))]
      simp only [nk_k, qK_wI, sk39 s, eq_self, decide_true, nk_ck, t9, t6, t7, j2, sr39_1 s, sk41 s, sl41 s, j1, sr39_3 s, sk43 s, sl43 s, cw, hi w (by omega), ab, rI_ne _ _ _ n1, rI_eq, rI_ne _ _ _ n2, rI_ne _ _ _ n3, h2, nI_1, es]
      have szl : nSz a b W n w ≤ 2000000000 := il
      by_cases q : 0 < nSz a b W n w
      · rw [if_neg (show ¬ nI (nSz a b W n w) ≤ (0 : Int32) from nI_ge (a := 0) q (by omega)), if_pos q]
      · rw [if_pos (show nI (nSz a b W n w) ≤ (0 : Int32) from nI_le (b := 0) (by omega) (by decide)), if_neg q, show nI (cnN (nSz a b W n) w) + (0 : Int32) = nI (cnN (nSz a b W n) w + 0) from lw_add _ 0]
    rw [st]
    have f1 : Fs [39, 41, 43] M (am_wI (am_wI (am_wI M 41 w (nI (nSz a b W n w))) 43 w ((0 : Int32) &&& 1)) 39 4 (nI (cnN (nSz a b W n) (w + 1)))) := fs_trans (fs_trans (fs_wI _ _ _ (by decide)) (fs_wI _ _ _ (by decide))) (fs_wI _ _ _ (by decide))
    obtain ⟨M', a1, a2, a3, a4⟩ := ih (w + 1) g _ (by omega) (by omega) (fs_shp f1 s) (ntt_fs f1 t) (by rw [fs_I f1 (by simp; omega)]; exact e1) (fun x hx => by rw [fs_I f1 (by simp; omega)]; exact hi x hx) (fun x hx => by
      rw [rI_ne _ _ _ (show ¬ 41 = 39 by decide), rI_ne _ _ _ (show ¬ 41 = 43 by decide), rI_if, rI_ne _ _ _ (show ¬ 43 = 39 by decide), rI_if, rI_ne _ _ _ (show ¬ 43 = 41 by decide)]
      by_cases e : x = w
      · rw [if_pos e, if_pos e, e]; exact ⟨rfl, rfl⟩
      · rw [if_neg e, if_neg e]; exact h1 x (by omega)) (rI_eq _ _ _ _)
    exact ⟨M', a1, fs_trans f1 a2, a3, a4⟩
/-- what the class's search keeps of its net -/
def NcS (M : am_Mem) (u : Nat) (a b : Nat → Nat) (W n K : Nat) : Prop := NtT M u n W ∧ am_I M u 1 = nI W ∧ am_I M u 5 = nI (nW a b W n) ∧ am_I M u 6 = nI (nH a b W n) ∧ (∀ x, x < W → am_I M 38 x = iI (fS a b W n x)) ∧ (∀ x, x < W → am_I M 41 x = nI (nSz a b W n x)) ∧ am_I M 39 4 = nI K
/-- wires laid and their outlines, the class -/
def ChC (M : am_Mem) (sz : Nat → Nat) (Wd : Nat) : List Nat → Prop
  | [] => OuC M 44 [(0, 0)] Wd
  | x :: p => ChC M sz Wd p ∧ am_I M 42 p.length = nI x ∧ OuC M (44 + 3 * (p.length + 1)) (opN sz Wd (x :: p)) Wd
theorem chc_top {M : am_Mem} {sz : Nat → Nat} {Wd : Nat} : ∀ {p : List Nat}, ChC M sz Wd p → OuC M (44 + 3 * p.length) (opN sz Wd p) Wd
  | [], h => h
  | _ :: _, h => h.2.2
theorem chc_keep {M M' : am_Mem} {sz : Nat → Nat} {Wd : Nat} : ∀ {p : List Nat}, (∀ y, 44 ≤ y → y < 44 + 3 * (p.length + 1) → am_I M' y = am_I M y) → (∀ j, j < p.length → am_I M' 42 j = am_I M 42 j) → ChC M sz Wd p → ChC M' sz Wd p
  | [], h1, _, h => by
    have h' : OuC M 44 [(0, 0)] Wd := h
    show OuC M' 44 [(0, 0)] Wd
    unfold OuC at h' ⊢
    rw [h1 44 (by decide) (by decide), h1 (44 + 1) (by decide) (by decide), h1 (44 + 2) (by decide) (by decide)]
    exact h'
  | x :: p, h1, h2, h => by
    rw [List.length_cons] at h1 h2
    refine ⟨chc_keep (fun y a b => h1 y a (by omega)) (fun j hj => h2 j (by omega)) h.1, ?_, ?_⟩
    · rw [h2 p.length (by omega)]; exact h.2.1
    · have h' := h.2.2
      unfold OuC at h' ⊢
      rw [h1 (44 + 3 * (p.length + 1)) (by omega) (by omega), h1 (44 + 3 * (p.length + 1) + 1) (by omega) (by omega), h1 (44 + 3 * (p.length + 1) + 2) (by omega) (by omega)]
      exact h'
/-- the next wire that fits -/
theorem nf_c {K : Nat} {p : List Nat} {M : am_Mem} (hN : 100000 ≤ N) (hn0 : 0 < n) (hW : W ≤ 14) (d0 : 0 < fD a b W n) (hp : p.length ≤ 14) (pt : PtN (fitB (nSz a b W n) (nSt a b W n) (nW a b W n) (nH a b W n)) W p) (s : Shp M) (nc : NcS M u a b W n K) (ch : ChC M (nSz a b W n) (nW a b W n) p) (us : ∀ w, w < W → am_I M 43 w = if w ∈ p then 1 else 0) {w : Nat} (hw : w ≤ W) : ∃ v, fn4_nextFitting N M 39 u 38 (nI p.length) (nI w) = some (v, M) ∧ ((v = -1 ∧ ∀ x, w ≤ x → x < W → ¬ fitB (nSz a b W n) (nSt a b W n) (nW a b W n) (nH a b W n) p x = true) ∨ ∃ x, w ≤ x ∧ x < W ∧ v = nI x ∧ fitB (nSz a b W n) (nSt a b W n) (nW a b W n) (nH a b W n) p x = true ∧ ∀ y, w ≤ y → y < x → ¬ fitB (nSz a b W n) (nSt a b W n) (nW a b W n) (nH a b W n) p y = true) := by
  have g0 : ¬ fG a b W n W = 0 := by have := fg_pos (a := a) (b := b) (W := W) hn0 d0; omega
  have wp := nw_pos (a := a) (b := b) (W := W) hn0 d0
  have wle := nw_le (a := a) (b := b) (W := W) hn0 hW d0
  have hle := nh_le (a := a) (b := b) (n := n) hW d0 g0
  obtain ⟨o1, o2, o3, o4, o5, o6, o7⟩ := pt_okm wp (fun w hw => sz_st hn0 d0 w hw) p pt
  have nl := nt_lt o1
  have dpn : dpO (opN (nSz a b W n) (nW a b W n) p) (ntO (opN (nSz a b W n) (nW a b W n) p)) ≤ nH a b W n := o4 _ nl
  obtain ⟨r40, t40⟩ := s40t s (show p.length < 15 by omega)
  obtain ⟨c1, c2, c3, c4, c5, c6, c7⟩ := id nc
  have top := chc_top ch
  have ld : (opN (nSz a b W n) (nW a b W n) p).length ≤ 15 := by omega
  have dp := oc_depth t40 (by decide) ld o1 top
  have wd : fn6_notchWidth M (44 + 3 * p.length) = some (nI (wdO (opN (nSz a b W n) (nW a b W n) p) (nW a b W n)), M) := oc_width t40 (by decide) ld o1 top
  have wdl : wdO (opN (nSz a b W n) (nW a b W n) p) (nW a b W n) ≤ 1000000000 := by
    have := bg_en o1 nl
    unfold wdO
    omega
  have go : ∀ m x fuel, x + m = W → w ≤ x → m < fuel → (∀ y, w ≤ y → y < x → ¬ fitB (nSz a b W n) (nSt a b W n) (nW a b W n) (nH a b W n) p y = true) → ∃ v, fn4_nextFitting_b31 N fuel 39 u 38 (nI (nH a b W n) - nI (dpO (opN (nSz a b W n) (nW a b W n) p) (ntO (opN (nSz a b W n) (nW a b W n) p)))) (nI (wdO (opN (nSz a b W n) (nW a b W n) p) (nW a b W n))) (nI x) M = some (v, M) ∧ ((v = -1 ∧ ∀ x, w ≤ x → x < W → ¬ fitB (nSz a b W n) (nSt a b W n) (nW a b W n) (nH a b W n) p x = true) ∨ ∃ x, w ≤ x ∧ x < W ∧ v = nI x ∧ fitB (nSz a b W n) (nSt a b W n) (nW a b W n) (nH a b W n) p x = true ∧ ∀ y, w ≤ y → y < x → ¬ fitB (nSz a b W n) (nSt a b W n) (nW a b W n) (nH a b W n) p y = true) := by
    intro m
    induction m with
    | zero =>
      intro x fuel hx hwx hf nf
      obtain ⟨g, rfl⟩ : ∃ g, fuel = g + 1 := ⟨fuel - 1, by omega⟩
      refine ⟨-1, ?_, Or.inl ⟨rfl, fun y h1 h2 => nf y h1 (by omega)⟩⟩
      show fn4_nextFitting_b31B N (fn4_nextFitting_b31 N g) 39 u 38 _ _ (nI x) M = _
      unfold fn4_nextFitting_b31B
      rw [nk_k, c1.2.2.1, nk_dd, c2, if_pos (nI_le (by omega) (by omega))]
    | succ m ih =>
      intro x fuel hx hwx hf nf
      obtain ⟨g, rfl⟩ : ∃ g, fuel = g + 1 := ⟨fuel - 1, by omega⟩
      have xl : x < W := by omega
      have szl : nSz a b W n x ≤ 2000000000 := fi_le hW g0 _ xl
      have skip : ¬ fitB (nSz a b W n) (nSt a b W n) (nW a b W n) (nH a b W n) p x = true → ∃ v, fn4_nextFitting_b31 N g 39 u 38 (nI (nH a b W n) - nI (dpO (opN (nSz a b W n) (nW a b W n) p) (ntO (opN (nSz a b W n) (nW a b W n) p)))) (nI (wdO (opN (nSz a b W n) (nW a b W n) p) (nW a b W n))) (nI (x + 1)) M = some (v, M) ∧ ((v = -1 ∧ ∀ x, w ≤ x → x < W → ¬ fitB (nSz a b W n) (nSt a b W n) (nW a b W n) (nH a b W n) p x = true) ∨ ∃ x, w ≤ x ∧ x < W ∧ v = nI x ∧ fitB (nSz a b W n) (nSt a b W n) (nW a b W n) (nH a b W n) p x = true ∧ ∀ y, w ≤ y → y < x → ¬ fitB (nSz a b W n) (nSt a b W n) (nW a b W n) (nH a b W n) p y = true) := fun nfx => ih (x + 1) g (by omega) (by omega) (by omega) (fun y h1 h2 => by
          by_cases e : y = x
          · rw [e]; exact nfx
          · exact nf y h1 (by omega))
      show ∃ v, fn4_nextFitting_b31B N (fn4_nextFitting_b31 N g) 39 u 38 _ _ (nI x) M = _ ∧ _
      unfold fn4_nextFitting_b31B fn4_nextFitting_b84
      rw [nk_k, c1.2.2.1, nk_dd, c2, if_neg (nI_ge (by omega) (by omega)), nk_k, sk39 s, nk_dd, sr39_3 s, nk_k, sk43 s, nk_dd, sl43 s, nk_in (show x < 14 by omega) (by decide), nk_ck, nI_clamp (by omega), us x xl, nI_1]
      by_cases q1 : x ∈ p
      · rw [if_pos q1, if_neg z_1]
        exact skip (fun z => (fit_iff.mp z).1 q1)
      · rw [if_neg q1, if_pos rfl, sr39_1 s, nk_k, sk41 s, nk_dd, sl41 s, nk_in (show x < 14 by omega) (by decide), nk_ck, c6 x xl]
        by_cases q2 : nSz a b W n x = 0
        · rw [if_pos (show nI (nSz a b W n x) ≤ (0 : Int32) by rw [q2]; decide)]
          exact skip (fun z => by have := (fit_iff.mp z).2.1; omega)
        · rw [if_neg (show ¬ nI (nSz a b W n x) ≤ (0 : Int32) from nI_ge (a := 0) (by omega) (by omega)), nk_ck]
          by_cases q3 : wdO (opN (nSz a b W n) (nW a b W n) p) (nW a b W n) < nSz a b W n x
          · rw [if_pos (nI_lt q3 (by omega))]
            exact skip (fun z => by have := (fit_iff.mp z).2.2.1; omega)
          · have h1 := fs_le (a := a) (b := b) hW d0 g0 x
            have h3 := fs_nn (a := a) (b := b) (W := W) hn0 d0 x
            have cmp : (iI (fS a b W n x) = nI (nH a b W n) - nI (dpO (opN (nSz a b W n) (nW a b W n) p) (ntO (opN (nSz a b W n) (nW a b W n) p)))) ↔ nSt a b W n x + dpO (opN (nSz a b W n) (nW a b W n) p) (ntO (opN (nSz a b W n) (nW a b W n) p)) = nH a b W n := by
              rw [nI_min dpn, ii_nn h3]
              unfold nSt
              constructor
              · intro e
                have := nI_inj (by omega) (by omega) e
                omega
              · intro e
                exact congrArg nI (by omega)
            rw [if_neg (i32_nl q3 (by omega) (by omega)), nk_k, sk38 s, nk_dd, sl38 s, nk_in (show x < 14 by omega) (by decide), nk_ck, c5 x xl]
            by_cases q4 : nSt a b W n x + dpO (opN (nSz a b W n) (nW a b W n) p) (ntO (opN (nSz a b W n) (nW a b W n) p)) = nH a b W n
            · rw [if_pos (cmp.mpr q4)]
              exact ⟨nI x, rfl, Or.inr ⟨x, hwx, xl, rfl, fit_iff.mpr ⟨q1, by omega, by omega, q4⟩, nf⟩⟩
            · rw [if_neg (fun z => q4 (cmp.mp z))]
              exact skip (fun z => q4 (fit_iff.mp z).2.2.2)
  obtain ⟨v, g1, g2⟩ := go (W - w) w N (by omega) (Nat.le_refl w) (by omega) (fun y h1 h2 => by omega)
  refine ⟨v, ?_, g2⟩
  unfold fn4_nextFitting fn4_nextFitting_b0 fn4_nextFitting_b8 fn4_nextFitting_b20
  rw [nk_k, sk39 s, nk_dd, sr39_0 s, nk_k, sk40 s, nk_dd, sl40 s, nk_in (show p.length < 15 by omega) (by decide), nk_ck, nI_clamp (by omega), r40, nk_k, c1.2.2.1, nk_dd, nk_k, t40.1, nk_dd, dp, nk_bd, nk_k, t40.1, nk_dd, c4, wd, nk_bd]
  exact g1
end
