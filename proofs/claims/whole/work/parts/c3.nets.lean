section
variable {a b : Nat → Nat} {W n N r K : Nat}
theorem go_m (hN : 100000 ≤ N) (hr : r < 6) (hn : n ≤ 8) (hn0 : 0 < n) (hW : W ≤ 14) (ha : ∀ w, w < W → a w ≤ n ∧ b w ≤ n ∧ ¬ a w = b w) (d0 : 0 < fD a b W n) (hK : K ≤ 14) : ∀ (r' d : Nat) (p : List Nat) (c : Nat) (M : am_Mem), r' < d → p.length + r' = K → PtN (fitB (nSz a b W n) (nSt a b W n) (nW a b W n) (nH a b W n)) W p → c ≤ 20000 → Shp M → NtS M r a b W n → NsM M r W K (nW a b W n) (nSz a b W n) p c → ∃ v M', fn12_goes N d M 110 (nI r) (nI p.length) = some (v, M') ∧ GoB M M' r p.length ∧ GoE M' a b W n r K p v (gsF (fitB (nSz a b W n) (nSt a b W n) (nW a b W n) (nH a b W n)) W r' p c) := by
  intro r'
  have g0 : ¬ fG a b W n W = 0 := by have := fg_pos (a := a) (b := b) (W := W) hn0 d0; omega
  have wp := nw_pos (a := a) (b := b) (W := W) hn0 d0
  have hle := nh_le (a := a) (b := b) (n := n) hW d0 g0
  induction r' with
  | zero =>
    intro d p c M hd hp pt hc s nt ns
    obtain ⟨d', rfl⟩ : ∃ d', d = d' + 1 := ⟨d - 1, by omega⟩
    refine ⟨1, M, ?_, gob_refl _ _ _, Or.inl ⟨rfl, rfl, ns.1, ?_⟩⟩
    · show fn12_goes_b0 N (fn12_goes N d') 110 (nI r) (nI p.length) M = _
      unfold fn12_goes_b0
      rw [nk_k, sk110 s, nk_dd, ns.2.2.1, if_pos (show nI p.length = nI K from congrArg nI (by omega))]
    · rw [← show p.length = K by omega]
      exact ns.2.2.2.2.2.2
  | succ r' ih =>
    intro d p c M hd hp pt hc s nt ns
    obtain ⟨d', rfl⟩ : ∃ d', d = d' + 1 := ⟨d - 1, by omega⟩
    obtain ⟨o1, o2, o3, o4, o5, o6, o7⟩ := pt_okm wp (fun w hw => sz_st hn0 d0 w hw) p pt
    have nl := nt_lt o1
    have dpn : dpO (opN (nSz a b W n) (nW a b W n) p) (ntO (opN (nSz a b W n) (nW a b W n) p)) ≤ nH a b W n := o4 _ nl
    have hdp : ∀ j, j < (opN (nSz a b W n) (nW a b W n) p).length → dpO (opN (nSz a b W n) (nW a b W n) p) j < 2147483648 := fun j hj => by
      have : dpO (opN (nSz a b W n) (nW a b W n) p) j ≤ nH a b W n := o4 j hj
      omega
    have na := na_m (N := N) hN s (show p.length < 42 by omega) (by omega) o1 ns.2.2.2.2.2.1 hdp
    obtain ⟨v, M', a1, a2, a3⟩ := go_l (N := N) (d := d') (r' := r') hN hr hn hn0 hW ha d0 hK hp pt (fun x c M hx fit hc s nt ns => by
      have := ih d' (x :: p) c M (by omega) (by rw [List.length_cons]; omega) ⟨pt, fit, hx⟩ hc s nt ns
      rw [List.length_cons] at this
      exact this) W c N M (Nat.le_refl W) hc (by omega) s nt ns
    rw [Nat.sub_self] at a1
    refine ⟨v, M', ?_, a2, a3⟩
    show fn12_goes_b0 N (fn12_goes N d') 110 (nI r) (nI p.length) M = _
    unfold fn12_goes_b0 fn12_goes_b30
    have tl : (nI (dpO (opN (nSz a b W n) (nW a b W n) p) (ntO (opN (nSz a b W n) (nW a b W n) p)))).toInt64 = lI (dpO (opN (nSz a b W n) (nW a b W n) p) (ntO (opN (nSz a b W n) (nW a b W n) p)) : Int) := ii_li (z := (dpO (opN (nSz a b W n) (nW a b W n) p) (ntO (opN (nSz a b W n) (nW a b W n) p)) : Int)) (by omega)
    rw [nk_k, sk110 s, nk_dd, ns.2.2.1, if_neg (show ¬ nI p.length = nI K from fun z => by have := nI_inj (by omega) (by omega) z; omega), na, nk_bd, nk_k, sk110 s, nk_dd, sr110_34 s, nk_k, sk132 s, nk_dd, sl132 s, i42, nk_in (show 42 * p.length + ntO (opN (nSz a b W n) (nW a b W n) p) < 1764 by omega) (by decide), nk_ck, nI_clamp (by omega), (ns.2.2.2.2.2.1.2 _ nl).2, tl]
    exact a1
end
def nmW : List Nat := [110, 117, 126, 127, 128, 129, 130, 131, 132, 133, 134]
/-- what a net leaves, the reference -/
def NmB (M M' : am_Mem) (r : Nat) : Prop := Fs nmW M M' ∧ (∀ y, ¬ y = 35 → ¬ y = 38 → ¬ y = 39 → am_I M' 110 y = am_I M 110 y) ∧ am_J M' 110 = am_J M 110 ∧ (∀ z, z < 124 * r → am_I M' 117 z = am_I M 117 z) ∧ (∀ u, ¬ u = r → am_I M' 126 u = am_I M 126 u) ∧ NtB M M' r
theorem ntb_refl (M : am_Mem) (r : Nat) : NtB M M r := ⟨fun _ _ => rfl, fun _ _ => rfl, fun _ _ => rfl⟩
theorem ntb_J {M M' : am_Mem} {r : Nat} (h1 : am_J M' 127 = am_J M 127) (h2 : am_J M' 128 = am_J M 128) (h3 : am_J M' 129 = am_J M 129) : NtB M M' r := ⟨fun _ _ => by rw [h1], fun _ _ => by rw [h2], fun _ _ => by rw [h3]⟩
theorem ntb_trans {M M1 M2 : am_Mem} {r : Nat} (h : NtB M M1 r) (g : NtB M1 M2 r) : NtB M M2 r := ⟨fun u hu => (g.1 u hu).trans (h.1 u hu), fun z hz => (g.2.1 z hz).trans (h.2.1 z hz), fun z hz => (g.2.2 z hz).trans (h.2.2 z hz)⟩
theorem nmb_trans {M M1 M2 : am_Mem} {r : Nat} (h : NmB M M1 r) (g : NmB M1 M2 r) : NmB M M2 r :=
  ⟨fs_trans h.1 g.1, fun y a b c => (g.2.1 y a b c).trans (h.2.1 y a b c), g.2.2.1.trans h.2.2.1, fun z hz => (g.2.2.2.1 z hz).trans (h.2.2.2.1 z hz), fun u hu => (g.2.2.2.2.1 u hu).trans (h.2.2.2.2.1 u hu), ntb_trans h.2.2.2.2.2 g.2.2.2.2.2⟩
theorem nmb_rw {M M' : am_Mem} {r : Nat} (h : RwB M M' r) : NmB M M' r :=
  ⟨fs_mono h.1 (by decide), fun y _ _ _ => by rw [fs_I h.1 (by decide)], fs_J h.1 (by decide), h.2, fun u _ => by rw [fs_I h.1 (by decide)], ntb_J (fs_J h.1 (by decide)) (fs_J h.1 (by decide)) (fs_J h.1 (by decide))⟩
theorem nmb_go {M M' : am_Mem} {r k : Nat} (h : GoB M M' r k) : NmB M M' r :=
  ⟨fs_mono h.1 (by decide), fun y _ _ c => h.2.1 y c, h.2.2.1, h.2.2.2.2.1, h.2.2.2.1, ntb_J (fs_J h.1 (by decide)) (fs_J h.1 (by decide)) (fs_J h.1 (by decide))⟩
section
variable {N r : Nat}
theorem nz_l (hr : r < 6) : ∀ m w fuel M, w + m = 14 → m < fuel → Shp M → (∀ y, y < w → am_I M 134 y = 0) → ∃ M', fn12_nets_b24 N fuel 110 (nI r) (nI w) M = fn12_nets_b45 N N 110 (nI r) (nI 0) M' ∧ Fs [134] M M' ∧ ∀ y, y < 14 → am_I M' 134 y = 0 := by
  intro m
  induction m with
  | zero =>
    intro w fuel M hw hf s h
    obtain ⟨g, rfl⟩ : ∃ g, fuel = g + 1 := ⟨fuel - 1, by omega⟩
    refine ⟨M, ?_, fs_refl _ _, fun y hy => h y (by omega)⟩
    show fn12_nets_b24B N (fn12_nets_b24 N g) 110 (nI r) (nI w) M = _
    unfold fn12_nets_b24B
    rw [if_pos (show (14 : Int32) ≤ nI w from nI_le (a := 14) (by omega) (by omega))]
    rfl
  | succ m ih =>
    intro w fuel M hw hf s h
    obtain ⟨g, rfl⟩ : ∃ g, fuel = g + 1 := ⟨fuel - 1, by omega⟩
    have st : fn12_nets_b24 N (g + 1) 110 (nI r) (nI w) M = fn12_nets_b24 N g 110 (nI r) (nI (w + 1)) (am_wI M 134 w 0) := by
      show fn12_nets_b24B N (fn12_nets_b24 N g) 110 (nI r) (nI w) M = _
      unfold fn12_nets_b24B
      rw [if_neg (show ¬ (14 : Int32) ≤ nI w from nI_ge (b := 14) (by omega) (by decide)), nk_k, sk110 s, nk_dd, sr110_37 s, nk_k, sk134 s, nk_dd, sl134 s, nk_in (show w < 14 by omega) (by decide), nk_ck, nI_clamp (by omega), nI_1]
      rfl
    rw [st]
    have f1 : Fs [134] M (am_wI M 134 w 0) := fs_wI _ _ _ List.mem_cons_self
    obtain ⟨M', a1, a2, a3⟩ := ih (w + 1) g _ (by omega) (by omega) (fs_shp f1 s) (fun y hy => by
      rw [rI_if]
      by_cases e : y = w
      · rw [if_pos e]
      · rw [if_neg e]; exact h y (by omega))
    exact ⟨M', a1, fs_trans f1 a2, a3⟩
/-- currents that are not 0, counted in memory -/
def cJ (M : am_Mem) (r : Nat) : Nat → Nat
  | 0 => 0
  | w + 1 => cJ M r w + (if am_J M 129 (14 * r + w) = 0 then 0 else 1)
theorem cJ_le (M : am_Mem) (r : Nat) : ∀ w, cJ M r w ≤ w
  | 0 => Nat.le_refl _
  | w + 1 => by
    have := cJ_le M r w
    show cJ M r w + (if am_J M 129 (14 * r + w) = 0 then 0 else 1) ≤ w + 1
    by_cases q : am_J M 129 (14 * r + w) = 0
    · rw [if_pos q]; omega
    · rw [if_neg q]; omega
theorem nw_l {W : Nat} (hr : r < 6) (hW : W ≤ 14) (M0 : am_Mem) : ∀ m w fuel M, w + m = W → m < fuel → Shp M → am_I M 123 r = nI W → am_J M 129 = am_J M0 129 → am_I M 110 38 = nI (cJ M0 r w) → ∃ M' f', fn12_nets_b45 N fuel 110 (nI r) (nI w) M = fn12_nets_b45 N (f' + 1) 110 (nI r) (nI W) M' ∧ Fs [110] M M' ∧ (∀ y, ¬ y = 38 → am_I M' 110 y = am_I M 110 y) ∧ am_J M' 110 = am_J M 110 ∧ am_I M' 110 38 = nI (cJ M0 r W) := by
  intro m
  induction m with
  | zero =>
    intro w fuel M hw hf s e3 ej e8
    obtain ⟨g, rfl⟩ : ∃ g, fuel = g + 1 := ⟨fuel - 1, by omega⟩
    have e : w = W := by omega
    subst e
    exact ⟨M, g, rfl, fs_refl _ _, fun _ _ => rfl, rfl, e8⟩
  | succ m ih =>
    intro w fuel M hw hf s e3 ej e8
    obtain ⟨g, rfl⟩ : ∃ g, fuel = g + 1 := ⟨fuel - 1, by omega⟩
    have cl := cJ_le M0 r w
    have st : fn12_nets_b45 N (g + 1) 110 (nI r) (nI w) M = fn12_nets_b45 N g 110 (nI r) (nI (w + 1)) (am_wI M 110 38 (nI (cJ M0 r (w + 1)))) := by
      show fn12_nets_b45B N (fn12_nets_b45 N g) 110 (nI r) (nI w) M = _
      unfold fn12_nets_b45B fn12_nets_b81
      have es : cJ M0 r (w + 1) = cJ M0 r w + (if am_J M0 129 (14 * r + w) = 0 then 0 else 1) := rfl
      rw [nk_k, sk110 s, nk_dd, sr110_25 s, nk_k, sk123 s, nk_dd, sl123 s, nk_in hr (by decide), nk_ck, nI_clamp (by omega), e3, if_neg (nI_ge (by omega) (by omega)), sr110_31 s, nk_k, sk129 s, nk_dd, sl129 s, i14r, nk_in (show 14 * r + w < 84 by omega) (by decide), nk_ck, nI_clamp (by omega), e8, nI_1, es, ej]
      by_cases q : am_J M0 129 (14 * r + w) = 0
      · rw [if_pos ((lg_cmp_eq _ _).mpr q), if_pos q, show nI (cJ M0 r w) + (0 : Int32) = nI (cJ M0 r w + 0) from lw_add _ 0]
        rw [nk_dd]
      · rw [if_neg (fun z => q ((lg_cmp_eq _ _).mp z)), if_neg q, show nI (cJ M0 r w) + (1 : Int32) = nI (cJ M0 r w + 1) from lw_add _ 1]
        rw [nk_dd]
    rw [st]
    have f1 : Fs [110] M (am_wI M 110 38 (nI (cJ M0 r (w + 1)))) := fs_wI _ _ _ List.mem_cons_self
    obtain ⟨M', f', a1, a2, a3, a4, a5⟩ := ih (w + 1) g _ (by omega) (by omega) (fs_shp f1 s) (by rw [rI_ne _ _ _ (by decide)]; exact e3) (by rw [qJ_wI]; exact ej) (rI_eq _ _ _ _)
    refine ⟨M', f', a1, fs_trans f1 a2, fun y hy => by rw [a3 y hy, rI_ix _ _ _ hy], by rw [a4, qJ_wI], a5⟩
end
section
variable {a b : Nat → Nat} {W n N r : Nat}
theorem cJ_cn {M : am_Mem} (hW : W ≤ 14) (g0 : ¬ fG a b W n W = 0) (h : ∀ x, x < W → am_J M 129 (14 * r + x) = lI (fI a b W n x)) : ∀ w, w ≤ W → cJ M r w = cnN (nSz a b W n) w
  | 0, _ => rfl
  | w + 1, hw => by
    have il := fi_le (a := a) (b := b) (n := n) hW g0 w (by omega)
    show cJ M r w + (if am_J M 129 (14 * r + w) = 0 then 0 else 1) = cnN (nSz a b W n) w + (if 0 < nSz a b W n w then 1 else 0)
    rw [cJ_cn hW g0 h w (by omega), h w (by omega)]
    unfold nSz at *
    by_cases q : fI a b W n w = 0
    · rw [if_pos ((li_0 (by omega)).mpr q), if_neg (by omega)]
    · rw [if_neg (fun z => q ((li_0 (by omega)).mp z)), if_pos (by omega)]
/-- the search of a net -/
def srN (a b : Nat → Nat) (W n : Nat) : Rs := gsF (fitB (nSz a b W n) (nSt a b W n) (nW a b W n) (nH a b W n)) W (cnN (nSz a b W n) W) [] 0
/-- what a net comes to, the reference -/
def NmE (M : am_Mem) (r : Nat) (a b : Nat → Nat) (W n : Nat) : Prop := am_J M 127 r = lI (fD a b W n) ∧ ((fD a b W n = 0 ∧ am_I M 126 r = nI 0 ∧ RowR M 117 (124 * r) (1, 0, 0, [])) ∨ (0 < fD a b W n ∧ FlM M r a b W n ∧ am_I M 126 r = nI (srN a b W n).2.1 ∧ (((srN a b W n).1 = 1 ∧ RowR M 117 (124 * r) (0, nI (nW a b W n), nI (nH a b W n), ofF (fN (nSz a b W n) (nW a b W n) (srN a b W n).2.2) (cnN (nSz a b W n) W))) ∨ (¬ (srN a b W n).1 = 1 ∧ RowR M 117 (124 * r) (1, 0, 0, [])))))
theorem cn_m (sz : Nat → Nat) : ∀ w, cnN sz w ≤ w
  | 0 => Nat.le_refl _
  | w + 1 => by
    have := cn_m sz w
    show cnN sz w + (if 0 < sz w then 1 else 0) ≤ w + 1
    by_cases q : 0 < sz w
    · rw [if_pos q]; omega
    · rw [if_neg q]; omega
theorem nm_ok {M : am_Mem} (hN : 100000 ≤ N) (hr : r < 6) (hn : n ≤ 8) (hn0 : 0 < n) (hW : W ≤ 14) (ha : ∀ w, w < W → a w ≤ n ∧ b w ≤ n ∧ ¬ a w = b w) (s : Shp M) (e2 : am_I M 122 r = nI (n + 1)) (wm : WrM M r a b W) (d0 : 0 ≤ fD a b W n) (z3 : am_I M 117 (124 * r + 3) = 0) : ∃ M', fn12_nets N M 110 (nI r) = some ((), M') ∧ NmB M M' r ∧ NmE M' r a b W n := by
  obtain ⟨M1, a1, a2, a3, a4, a5, a6, a7⟩ := fw_ok (N := N) hN hr hn hn0 hW ha s e2 wm d0
  have s1 := fs_shp a2 s
  have f2 : Fs [110, 126] M1 (am_wI (am_wI (am_wI M1 126 r 0) 110 39 0) 110 38 0) := fs_trans (fs_trans (fs_wI _ _ _ (by decide)) (fs_wI _ _ _ (by decide))) (fs_wI _ _ _ (by decide))
  have x26 : am_I (am_wI (am_wI (am_wI M1 126 r 0) 110 39 0) 110 38 0) 126 r = nI 0 := by rw [rI_ne _ _ _ (by decide), rI_ne _ _ _ (by decide), rI_eq]; rfl
  have x26u : ∀ u, ¬ u = r → am_I (am_wI (am_wI (am_wI M1 126 r 0) 110 39 0) 110 38 0) 126 u = am_I M1 126 u := fun u hu => by rw [rI_ne _ _ _ (by decide), rI_ne _ _ _ (by decide), rI_ix _ _ _ hu]
  have x39 : am_I (am_wI (am_wI (am_wI M1 126 r 0) 110 39 0) 110 38 0) 110 39 = 0 := by rw [rI_ix _ _ _ (by decide), rI_eq]
  have x38 : am_I (am_wI (am_wI (am_wI M1 126 r 0) 110 39 0) 110 38 0) 110 38 = nI 0 := rI_eq _ _ _ _
  have x10 : ∀ y, ¬ y = 38 → ¬ y = 39 → am_I (am_wI (am_wI (am_wI M1 126 r 0) 110 39 0) 110 38 0) 110 y = am_I M1 110 y := fun y y1 y2 => by rw [rI_ix _ _ _ y1, rI_ix _ _ _ y2, rI_ne _ _ _ (by decide)]
  have xJ : am_J (am_wI (am_wI (am_wI M1 126 r 0) 110 39 0) 110 38 0) = am_J M1 := by rw [qJ_wI, qJ_wI, qJ_wI]
  have st : fn12_nets N M 110 (nI r) = fn12_nets_b24 N N 110 (nI r) (nI 0) (am_wI (am_wI (am_wI M1 126 r 0) 110 39 0) 110 38 0) := by
    unfold fn12_nets fn12_nets_b0
    rw [nk_k, sk110 s, nk_dd, a1, nk_bd, nk_k, sk110 s1, nk_dd, sr110_28 s1, nk_k, sk126 s1, nk_dd, sl126 s1, nk_in hr (by decide), nk_ck, nI_clamp (by omega)]
    rfl
  rw [st]
  revert f2 x26 x26u x39 x38 x10 xJ
  generalize am_wI (am_wI (am_wI M1 126 r 0) 110 39 0) 110 38 0 = M2
  intro f2 x26 x26u x39 x38 x10 xJ
  have s2 := fs_shp f2 s1
  obtain ⟨M3, b1, b2, b3⟩ := nz_l (N := N) hr 14 0 N M2 (by omega) (by omega) s2 (fun y hy => absurd hy (Nat.not_lt_zero y))
  have s3 := fs_shp b2 s2
  have w3 : WrM M3 r a b W := ⟨by rw [fs_I b2 (by decide), fs_I f2 (by decide), fs_I a2 (by decide)]; exact wm.1, fun w hw => by rw [fs_I b2 (by decide), fs_I f2 (by decide), fs_I a2 (by decide)]; exact wm.2 w hw⟩
  obtain ⟨M4, f', c1, c2, c3, c4, c5⟩ := nw_l (N := N) hr hW M3 W 0 N M3 (by omega) (by omega) s3 w3.1 rfl (by rw [fs_I b2 (by decide)]; exact x38)
  have s4 := fs_shp c2 s3
  have f14 : Fs [110, 126, 134] M1 M4 := fs_trans (fs_mono f2 (by decide)) (fs_trans (fs_mono b2 (by decide)) (fs_mono c2 (by decide)))
  have j27 : am_J M4 127 r = lI (fD a b W n) := by rw [fs_J f14 (by decide)]; exact a5
  have i26 : am_I M4 126 r = nI 0 := by rw [fs_I c2 (by decide), fs_I b2 (by decide)]; exact x26
  have y10 : ∀ y, ¬ y = 38 → ¬ y = 39 → am_I M4 110 y = am_I M1 110 y := fun y y1 y2 => by rw [c3 y y1, fs_I b2 (by decide), x10 y y1 y2]
  have nb : NmB M M4 r := by
    refine ⟨fs_trans (fs_mono a2 (by decide)) (fs_mono f14 (by decide)), fun y q1 q2 q3 => by rw [y10 y q2 q3, a3 y q1], ?_, fun z _ => by rw [fs_I f14 (by decide), fs_I a2 (by decide)], fun u hu => ?_, ?_⟩
    · rw [c4, fs_J b2 (by decide), xJ, a4]
    · rw [fs_I c2 (by decide), fs_I b2 (by decide), x26u u hu, fs_I a2 (by decide)]
    · exact ntb_trans a6 (ntb_J (fs_J f14 (by decide)) (fs_J f14 (by decide)) (fs_J f14 (by decide)))
  have z4 : am_I M4 117 (124 * r + 3) = 0 := by rw [fs_I f14 (by decide), fs_I a2 (by decide)]; exact z3
  have hd := fd_le (a := a) (b := b) hW n
  have st4 : fn12_nets_b45 N (f' + 1) 110 (nI r) (nI W) M4 = (if lg_cmp (lI (fD a b W n)) 0 = 0 then fn12_nets_b111 N 110 (nI r) M4 else am_bd (fn12_goes N 20 M4 110 (nI r) (0 : Int32)) (fun v6 M7 => if v6 = 0 then fn12_nets_b111 N 110 (nI r) M7 else am_ck (am_k M7 110 12) (am_bd (fn12_put M7 110 (nI r) (0 : Int32) (am_I M7 110 38)) (fun v10 M11 => am_ck (am_k M11 110 12) (am_bd (fn12_put M11 110 (nI r) (1 : Int32) (am_I M11 110 35)) (fun v14 M15 => am_ck (am_k M15 110 12) (am_ck (am_k M15 (am_R M15 110 30) 15) (am_ck (am_in ((9 : Int32) * nI r) (am_L M15 (am_R M15 110 30))) (am_bd (fn12_put M15 110 (nI r) (2 : Int32) ((am_J M15 (am_R M15 110 30) ((9 : Int32) * nI r).toNatClampNeg).toInt32)) (fun v20 M21 => some ((), M21))))))))))) := by
    show fn12_nets_b45B N (fn12_nets_b45 N f') 110 (nI r) (nI W) M4 = _
    unfold fn12_nets_b45B
    have e34 : am_I M4 123 r = nI W := by rw [fs_I c2 (by decide)]; exact w3.1
    rw [nk_k, sk110 s4, nk_dd, sr110_25 s4, nk_k, sk123 s4, nk_dd, sl123 s4, nk_in hr (by decide), nk_ck, nI_clamp (by omega), e34, if_pos (nI_le (Nat.le_refl W) (by omega)), sr110_29 s4, nk_k, sk127 s4, nk_dd, sl127 s4, nk_in hr (by decide), nk_ck, j27]
  have c1' : fn12_nets_b45 N N 110 (nI r) (nI 0) M3 = _ := c1
  rw [b1, c1', st4]
  have fail : ∀ M5, Shp M5 → NmB M M5 r → ∃ M', fn12_nets_b111 N 110 (nI r) M5 = some ((), M') ∧ NmB M M' r ∧ RwB M5 M' r ∧ RowR M' 117 (124 * r) (1, 0, 0, []) := by
    intro M5 s5 nb5
    obtain ⟨M6, g1, g2, g3⟩ := fa_m (N := N) hN hr s5
    refine ⟨M6, ?_, nmb_trans nb5 (nmb_rw g2), g2, g3⟩
    unfold fn12_nets_b111
    rw [nk_k, sk110 s5, nk_dd, g1, nk_bd]
  by_cases z : fD a b W n = 0
  · rw [if_pos ((lg_cmp_eq _ _).mpr ((li_0 (by unfold fD; omega)).mpr z))]
    obtain ⟨M6, g1, g2, g3, g4⟩ := fail M4 s4 nb
    exact ⟨M6, g1, g2, by rw [fs_J g3.1 (by decide)]; exact j27, Or.inl ⟨z, by rw [fs_I g3.1 (by decide)]; exact i26, g4⟩⟩
  · have dp : 0 < fD a b W n := by omega
    have g0 : ¬ fG a b W n W = 0 := by have := fg_pos (a := a) (b := b) (W := W) hn0 dp; omega
    rw [if_neg (fun e => z ((li_0 (by unfold fD; omega)).mp ((lg_cmp_eq _ _).mp e)))]
    obtain ⟨h1, h2, h3, h4, h5⟩ := a7 dp
    have fl4 : FlM M4 r a b W n := ⟨fun q hq => by rw [fs_J f14 (by decide)]; exact h1.1 q hq, fun x hx => by rw [fs_J f14 (by decide)]; exact h1.2 x hx⟩
    have nt4 : NtS M4 r a b W n := ⟨⟨by rw [fs_I c2 (by decide)]; exact w3.1, fun w hw => by rw [fs_I c2 (by decide)]; exact w3.2 w hw⟩, fl4⟩
    have wle := nw_le (a := a) (b := b) (W := W) hn0 hW dp
    have gp := fg_pos (a := a) (b := b) (W := W) hn0 dp
    have ewd : iI (fD a b W n / (fG a b W n W : Int)) = nI (nW a b W n) := ii_nn (Int.ediv_nonneg (by omega) (by omega))
    have k38 : am_I M4 110 38 = nI (cnN (nSz a b W n) W) := by
      rw [c5, cJ_cn hW g0 (fun x hx => by rw [fs_J b2 (by decide), fs_J f2 (by decide)]; exact h1.2 x hx) W (Nat.le_refl W)]
    have ns4 : NsM M4 r W (cnN (nSz a b W n) W) (nW a b W n) (nSz a b W n) [] 0 := by
      refine ⟨i26, by rw [c3 39 (by decide), fs_I b2 (by decide)]; exact x39, k38, by rw [y10 35 (by decide) (by decide), h2]; exact ewd, fun w hw => ?_, ⟨?_, fun k hk => ?_⟩, z4, fun j hj => absurd hj (Nat.not_lt_zero j)⟩
      · rw [fs_I c2 (by decide), if_neg List.not_mem_nil]; exact b3 w (by omega)
      · rw [fs_I f14 (by decide)]; exact h3
      · have : k < 1 := hk
        rw [show k = 0 by omega, fs_I f14 (by decide), fs_I f14 (by decide)]
        exact ⟨h4, h5⟩
    have cl := cn_m (nSz a b W n) W
    obtain ⟨v, M5, k1, k2, k3⟩ := go_m (N := N) hN hr hn hn0 hW ha dp (show cnN (nSz a b W n) W ≤ 14 by omega) (cnN (nSz a b W n) W) 20 [] 0 M4 (by omega) (Nat.zero_add _) trivial (by decide) s4 nt4 ns4
    have k1' : fn12_goes N 20 M4 110 (nI r) (0 : Int32) = some (v, M5) := k1
    have s5 := fs_shp k2.1 s4
    have nb5 := nmb_trans nb (nmb_go k2)
    have j275 : am_J M5 127 r = lI (fD a b W n) := by rw [fs_J k2.1 (by decide)]; exact j27
    have fl5 : FlM M5 r a b W n := ⟨fun q hq => by rw [fs_J k2.1 (by decide)]; exact fl4.1 q hq, fun x hx => by rw [fs_J k2.1 (by decide)]; exact fl4.2 x hx⟩
    have q27 := k3
    rw [k1', nk_bd]
    have nofind : v = 0 → ¬ (srN a b W n).1 = 1 → am_I M5 126 r = nI (srN a b W n).2.1 → ∃ M', (if v = 0 then fn12_nets_b111 N 110 (nI r) M5 else am_ck (am_k M5 110 12) (am_bd (fn12_put M5 110 (nI r) (0 : Int32) (am_I M5 110 38)) (fun v10 M11 => am_ck (am_k M11 110 12) (am_bd (fn12_put M11 110 (nI r) (1 : Int32) (am_I M11 110 35)) (fun v14 M15 => am_ck (am_k M15 110 12) (am_ck (am_k M15 (am_R M15 110 30) 15) (am_ck (am_in ((9 : Int32) * nI r) (am_L M15 (am_R M15 110 30))) (am_bd (fn12_put M15 110 (nI r) (2 : Int32) ((am_J M15 (am_R M15 110 30) ((9 : Int32) * nI r).toNatClampNeg).toInt32)) (fun v20 M21 => some ((), M21))))))))) : Option (Unit × am_Mem)) = some ((), M') ∧ NmB M M' r ∧ NmE M' r a b W n := by
      intro v0 nf i5
      rw [if_pos v0]
      obtain ⟨M6, g1, g2, g3, g4⟩ := fail M5 s5 nb5
      refine ⟨M6, g1, g2, by rw [fs_J g3.1 (by decide)]; exact j275, Or.inr ⟨dp, ⟨fun q hq => by rw [fs_J g3.1 (by decide)]; exact fl5.1 q hq, fun x hx => by rw [fs_J g3.1 (by decide)]; exact fl5.2 x hx⟩, by rw [fs_I g3.1 (by decide)]; exact i5, Or.inr ⟨nf, g4⟩⟩⟩
    rcases k3 with ⟨m1, m2, m3, m4⟩ | ⟨m1, m2, m3⟩ | ⟨m1, m2, m3, m4⟩
    · rw [m2, if_neg z_1]
      have w5 : am_I M5 110 35 = nI (nW a b W n) := by rw [k2.2.1 35 (by decide)]; exact ns4.2.2.2.1
      have k385 : am_I M5 110 38 = nI (cnN (nSz a b W n) W) := by rw [k2.2.1 38 (by decide)]; exact k38
      have sa : Shp (am_wI M5 117 (124 * r + 0) (nI (cnN (nSz a b W n) W))) := fs_shp (fs_wI (W := [117]) _ _ _ List.mem_cons_self) s5
      have sb : Shp (am_wI (am_wI M5 117 (124 * r + 0) (nI (cnN (nSz a b W n) W))) 117 (124 * r + 1) (nI (nW a b W n))) := fs_shp (fs_wI (W := [117]) _ _ _ List.mem_cons_self) sa
      have p1 : fn12_put M5 110 (nI r) (0 : Int32) (nI (cnN (nSz a b W n) W)) = _ := pt_m (z := 0) s5 (by omega) (by decide)
      have p2 : fn12_put (am_wI M5 117 (124 * r + 0) (nI (cnN (nSz a b W n) W))) 110 (nI r) (1 : Int32) (nI (nW a b W n)) = _ := pt_m (z := 1) sa (by omega) (by decide)
      have p3 : fn12_put (am_wI (am_wI M5 117 (124 * r + 0) (nI (cnN (nSz a b W n) W))) 117 (124 * r + 1) (nI (nW a b W n))) 110 (nI r) (2 : Int32) (nI (nH a b W n)) = _ := pt_m (z := 2) sb (by omega) (by decide)
      have e9 : (9 : Int32) * nI r = nI (9 * r) := (Int32.ofNat_mul 9 _).symm
      have l0 := fl5.1 0 (Nat.zero_le n)
      rw [Nat.add_zero] at l0
      have ehh : iI (fL a b W n 0) = nI (nH a b W n) := ii_nn (fl_nn hn0 dp 0)
      have rb : RwB M5 (am_wI (am_wI (am_wI M5 117 (124 * r + 0) (nI (cnN (nSz a b W n) W))) 117 (124 * r + 1) (nI (nW a b W n))) 117 (124 * r + 2) (nI (nH a b W n))) r := ⟨fs_trans (fs_trans (fs_wI _ _ _ List.mem_cons_self) (fs_wI _ _ _ List.mem_cons_self)) (fs_wI _ _ _ List.mem_cons_self), fun z hz => by rw [rI_ix _ _ _ (by omega), rI_ix _ _ _ (by omega), rI_ix _ _ _ (by omega)]⟩
      rw [nk_k, sk110 s5, nk_dd, k385, p1, nk_bd, nk_k, sk110 sa, nk_dd, rI_ne _ _ _ (show ¬ 110 = 117 by decide), w5, p2, nk_bd, nk_k, sk110 sb, nk_dd, sr110_30 sb, nk_k, sk128 sb, nk_dd, sl128 sb, e9, nk_in (show 9 * r < 54 by omega) (by decide), nk_ck, nI_clamp (by omega), qJ_wI, qJ_wI, l0, li_ii, ehh, p3, nk_bd]
      have q1 : ∀ y, y < 124 → ¬ y < 3 → am_I (am_wI (am_wI (am_wI M5 117 (124 * r + 0) (nI (cnN (nSz a b W n) W))) 117 (124 * r + 1) (nI (nW a b W n))) 117 (124 * r + 2) (nI (nH a b W n))) 117 (124 * r + y) = am_I M5 117 (124 * r + y) := fun y _ hy => by rw [rI_ix _ _ _ (by omega), rI_ix _ _ _ (by omega), rI_ix _ _ _ (by omega)]
      refine ⟨_, rfl, nmb_trans nb5 (nmb_rw rb), by rw [fs_J rb.1 (by decide)]; exact j275, Or.inr ⟨dp, ⟨fun q hq => by rw [fs_J rb.1 (by decide)]; exact fl5.1 q hq, fun x hx => by rw [fs_J rb.1 (by decide)]; exact fl5.2 x hx⟩, by rw [fs_I rb.1 (by decide)]; exact m3, Or.inl ⟨m1, ?_⟩⟩⟩
      refine ⟨?_, ?_, ?_, ?_, fun j hj => ?_, fun j hj => ?_, fun j hj => ?_⟩
      · rw [ofF_len, rI_ix _ _ _ (by omega), rI_ix _ _ _ (by omega)]; exact rI_eq _ _ _ _
      · rw [rI_ix _ _ _ (by omega), rI_eq]
      · rw [rI_eq]
      · rw [q1 3 (by decide) (by decide)]; exact m4.1
      · rw [ofF_len] at hj
        rw [q1 (4 + j) (by omega) (by omega), ofF_X _ hj]; exact (m4.2 j hj).1
      · rw [ofF_len] at hj
        rw [q1 (44 + j) (by omega) (by omega), ofF_Y _ hj]; exact (m4.2 j hj).2.1
      · rw [ofF_len] at hj
        rw [q1 (84 + j) (by omega) (by omega), ofF_S _ hj]; exact (m4.2 j hj).2.2
    · exact nofind m2 (fun e => by
        have : (srN a b W n).1 = 0 := m1
        omega) m3.1
    · exact nofind m2 (fun e => by
        have : (srN a b W n).1 = 2 := m1
        omega) m3
end
