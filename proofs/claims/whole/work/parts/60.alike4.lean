theorem nI_inj {a b : Nat} (ha : a < 2147483648) (hb : b < 2147483648) (e : nI a = nI b) : a = b := by
  have := congrArg Int32.toNatClampNeg e
  rw [nI_clamp ha, nI_clamp hb] at this
  exact this
section
variable {m o : Nat} {D : Nat → Rc} {n : Nat} {w h : Int32} {f : Nat → Sq}
/-- one square lies in the other rectangle -/
def Fit (q2 : Rc) (w : Int32) (q : Sq) : Prop := ∃ i, i < q2.2.2.2.length ∧ q.1.toInt * q2.2.1.toInt = (qX q2.2.2.2 i).toInt * w.toInt ∧ q.2.1.toInt * q2.2.1.toInt = (qY q2.2.2.2 i).toInt * w.toInt ∧ q.2.2.toInt * q2.2.1.toInt = (qS q2.2.2.2 i).toInt * w.toInt
theorem th_ok {N : Nat} (hN : 100000 ≤ N) {M : am_Mem} (mi : ModI M m D) (ho : o < m) (c : RoC M n w h f) (hn : n ≤ 40) {k : Nat} (hk : k < n) : ∃ v, fn12_isThere N M 110 (nI o) (nI k) = some (v, M) ∧ ((v = 1 ∧ Fit (D o) w (f k)) ∨ (v = 0 ∧ ¬ Fit (D o) w (f k))) := by
  have hl := good_len (mi.2.2.2 o ho).2
  obtain ⟨v, e, r⟩ := th_loop (N := N) mi ho c hn hk (D o).2.2.2.length 0 N (by omega) (by omega)
  refine ⟨v, e, ?_⟩
  rcases r with ⟨x, i, _, y⟩ | ⟨x, y⟩
  · exact Or.inl ⟨x, i, y⟩
  · exact Or.inr ⟨x, fun ⟨i, z⟩ => y ⟨i, Nat.zero_le _, z⟩⟩
theorem aa_loop {N : Nat} (hN : 100000 ≤ N) {M : am_Mem} (mi : ModI M m D) (ho : o < m) (c : RoC M n w h f) (hn : n ≤ 40) : ∀ r k fuel, k + r = n → r < fuel → ∃ v, fn12_areAlike_b53 N fuel 110 (nI o) (nI k) M = some (v, M) ∧ ((v = 1 ∧ ∀ i, k ≤ i → i < n → Fit (D o) w (f i)) ∨ (v = 0 ∧ ¬ ∀ i, k ≤ i → i < n → Fit (D o) w (f i))) := by
  have s := mi.1
  have j0 : am_in (0 : Int32) 124 = true := rfl
  have l0 : (0 : Int32).toNatClampNeg = 0 := rfl
  intro r
  induction r with
  | zero =>
    intro k fuel hk hf
    obtain ⟨g, rfl⟩ : ∃ g, fuel = g + 1 := ⟨fuel - 1, by omega⟩
    refine ⟨1, ?_, Or.inl ⟨rfl, fun i h1 h2 => by omega⟩⟩
    show fn12_areAlike_b53B N (fn12_areAlike_b53 N g) 110 (nI o) (nI k) M = _
    unfold fn12_areAlike_b53B
    rw [nk_k, sk110 s, nk_dd, sr110_48 s, nk_k, sk140 s, nk_dd, sl140 s, j0, nk_ck, l0, c.1, if_pos (nI_le (by omega) (by omega))]
  | succ r ih =>
    intro k fuel hk hf
    obtain ⟨g, rfl⟩ : ∃ g, fuel = g + 1 := ⟨fuel - 1, by omega⟩
    have hk' : k < n := by omega
    obtain ⟨v, e1, e2⟩ := ih (k + 1) g (by omega) (by omega)
    obtain ⟨u, e3, e4⟩ := th_ok hN mi ho c hn hk'
    have st : fn12_areAlike_b53 N (g + 1) 110 (nI o) (nI k) M = (if u = 0 then some (0, M) else some (v, M)) := by
      show fn12_areAlike_b53B N (fn12_areAlike_b53 N g) 110 (nI o) (nI k) M = _
      unfold fn12_areAlike_b53B
      rw [nk_k, sk110 s, nk_dd, sr110_48 s, nk_k, sk140 s, nk_dd, sl140 s, j0, nk_ck, l0, c.1, if_neg (nI_ge hk' (by omega)), e3, nk_bd, nI_1, e1]
    rw [st]
    rcases e4 with ⟨x, y⟩ | ⟨x, y⟩
    · rw [x, if_neg z_1]
      refine ⟨v, rfl, ?_⟩
      rcases e2 with ⟨p, q⟩ | ⟨p, q⟩
      · refine Or.inl ⟨p, fun i h1 h2 => ?_⟩
        by_cases e : i = k
        · rw [e]; exact y
        · exact q i (by omega) h2
      · exact Or.inr ⟨p, fun z => q (fun i h1 h2 => z i (by omega) h2)⟩
    · rw [x, if_pos rfl]
      exact ⟨0, rfl, Or.inr ⟨rfl, fun z => y (z k (Nat.le_refl _) hk')⟩⟩
theorem aa_ok {N : Nat} (hN : 100000 ≤ N) {M : am_Mem} (mi : ModI M m D) (ho : o < m) (c : RoC M n w h f) (hn : n ≤ 40) : ∃ v, fn12_areAlike N M 110 (nI o) = some (v, M) ∧ ((v = 1 ∧ n = (D o).2.2.2.length ∧ h.toInt * (D o).2.1.toInt = (D o).2.2.1.toInt * w.toInt ∧ ∀ i, i < n → Fit (D o) w (f i)) ∨ (v = 0 ∧ ¬ (n = (D o).2.2.2.length ∧ h.toInt * (D o).2.1.toInt = (D o).2.2.1.toInt * w.toInt ∧ ∀ i, i < n → Fit (D o) w (f i)))) := by
  have s := mi.1
  have hl := good_len (mi.2.2.2 o ho).2
  have j0 : am_in (0 : Int32) 124 = true := rfl
  have l0 : (0 : Int32).toNatClampNeg = 0 := rfl
  have j1 : am_in (1 : Int32) 124 = true := rfl
  have l1 : (1 : Int32).toNatClampNeg = 1 := rfl
  have j2 : am_in (2 : Int32) 124 = true := rfl
  have l2 : (2 : Int32).toNatClampNeg = 2 := rfl
  obtain ⟨v, e1, e2⟩ := aa_loop hN mi ho c hn n 0 N (by omega) (by omega)
  have e1' : fn12_areAlike_b53 N N 110 (nI o) 0 M = some (v, M) := e1
  unfold fn12_areAlike fn12_areAlike_b0 fn12_areAlike_b49
  simp only [nk_k, sk110 s, sr110_48 s, sk140 s, sl140 s, eq_self, decide_true, nk_ck, j0, l0, j1, l1, j2, l2, mw_n mi ho, mw_w mi ho, mw_h mi ho, nk_bd, c.1, c.2.1, c.2.2.1, lg_cmp_eq, i64_eq, e1']
  by_cases q1 : nI n = nI (D o).2.2.2.length
  · rw [if_pos q1]
    have q1' : n = (D o).2.2.2.length := nI_inj (by omega) (by omega) q1
    by_cases q2 : h.toInt * (D o).2.1.toInt = (D o).2.2.1.toInt * w.toInt
    · rw [if_pos q2]
      refine ⟨v, rfl, ?_⟩
      rcases e2 with ⟨x, y⟩ | ⟨x, y⟩
      · exact Or.inl ⟨x, q1', q2, fun i hi => y i (Nat.zero_le _) hi⟩
      · exact Or.inr ⟨x, fun z => y (fun i _ hi => z.2.2 i hi)⟩
    · rw [if_neg q2]
      exact ⟨0, rfl, Or.inr ⟨rfl, fun z => q2 z.2.1⟩⟩
  · rw [if_neg q1]
    exact ⟨0, rfl, Or.inr ⟨rfl, fun z => q1 (by rw [z.1])⟩⟩
theorem al_m {N : Nat} (hN : 100000 ≤ N) {i : Nat} (hi : i < m) (ho : o < m) (hf : (D i).1 = 0) :
    ∀ c τ fuel M, τ + c = 8 → c < fuel → ModI M m D →
    ∃ v M', fn12_alike_b43 N fuel 110 (nI i) (nI o) (nI τ) M = some (v, M') ∧ Fs [140] M M' ∧ ((v = 1 ∧ ∃ σ, τ ≤ σ ∧ σ < 8 ∧ (D i).2.2.2.length = (D o).2.2.2.length ∧ MA (D i) (D o) σ) ∨ (v = 0 ∧ ¬ ∃ σ, τ ≤ σ ∧ σ < 8 ∧ (D i).2.2.2.length = (D o).2.2.2.length ∧ MA (D i) (D o) σ)) := by
  intro c
  induction c with
  | zero =>
    intro τ fuel M hτ hf2 mi
    obtain ⟨g, rfl⟩ : ∃ g, fuel = g + 1 := ⟨fuel - 1, by omega⟩
    have : τ = 8 := by omega
    subst this
    refine ⟨0, M, ?_, fs_refl _ _, Or.inr ⟨rfl, fun ⟨σ, h1, h2, _⟩ => by omega⟩⟩
    show fn12_alike_b43B N (fn12_alike_b43 N g) 110 (nI i) (nI o) (nI 8) M = _
    unfold fn12_alike_b43B
    rw [if_pos (show (8 : Int32) ≤ nI 8 from by decide)]
  | succ c ih =>
    intro τ fuel M hτ hf2 mi
    obtain ⟨g, rfl⟩ : ∃ g, fuel = g + 1 := ⟨fuel - 1, by omega⟩
    have h8 : τ < 8 := by omega
    have hl := good_len (mi.2.2.2 i hi).2
    obtain ⟨M1, e1, f1, c1⟩ := tk_ok hN mi hi hf
    have m1 := modI_fs f1 (by decide) (by rw [fs_I f1 (by decide)]) mi
    obtain ⟨M2, e2, f2, c2⟩ := tn_ok hN h8 hl m1.1 c1
    have m2 := modI_fs f2 (by decide) (by rw [fs_I f2 (by decide)]) m1
    obtain ⟨v, e3, e4⟩ := aa_ok hN m2 ho c2 hl
    have hle : ¬ (8 : Int32) ≤ nI τ := nI_ge (b := 8) h8 (by decide)
    have st : fn12_alike_b43 N (g + 1) 110 (nI i) (nI o) (nI τ) M = (if v = 0 then fn12_alike_b43 N g 110 (nI i) (nI o) (nI (τ + 1)) M2 else some (1, M2)) := by
      show fn12_alike_b43B N (fn12_alike_b43 N g) 110 (nI i) (nI o) (nI τ) M = _
      unfold fn12_alike_b43B
      rw [if_neg hle, kw_110 mi, nk_ck, e1, nk_bd, kw_110 m1, nk_ck, e2, nk_bd, kw_110 m2, nk_ck, e3, nk_bd, nI_1]
    rw [st]
    rcases e4 with ⟨x, y⟩ | ⟨x, y⟩
    · rw [x, if_neg z_1]
      exact ⟨1, M2, rfl, fs_trans f1 f2, Or.inl ⟨rfl, τ, Nat.le_refl _, h8, y.1, y.2.1, y.2.2⟩⟩
    · rw [x, if_pos rfl]
      obtain ⟨v', M', e5, f5, r5⟩ := ih (τ + 1) g M2 (by omega) (by omega) m2
      refine ⟨v', M', e5, fs_trans (fs_trans f1 f2) f5, ?_⟩
      rcases r5 with ⟨p, σ, h1, h2, h3⟩ | ⟨p, r⟩
      · exact Or.inl ⟨p, σ, by omega, h2, h3⟩
      · refine Or.inr ⟨p, fun ⟨σ, h1, h2, h3⟩ => ?_⟩
        by_cases e : σ = τ
        · subst e; exact y ⟨h3.1, h3.2.1, h3.2.2⟩
        · exact r ⟨σ, by omega, h2, h3⟩
end
theorem inv_dW {d : Nat} {M M' : am_Mem} {told m : Nat} {D : Nat → Rc} (h : InvAt M told m D) (hd : d = 89 ∨ d = 93) (f : Fs (dW d) M M') : InvAt M' told m D := by
  rcases hd with rfl | rfl
  · exact inv_scr h (fs_fr f) (by decide +kernel) (by rw [fs_I f (by decide)]) (by rw [fs_I f (by decide)]) (by rw [fs_I f (by decide)]) (by rw [fs_I f (by decide)]) (by rw [fs_I f (by decide)]) (by rw [fs_I f (by decide)])
  · exact inv_scr h (fs_fr f) (by decide +kernel) (by rw [fs_I f (by decide)]) (by rw [fs_I f (by decide)]) (by rw [fs_I f (by decide)]) (by rw [fs_I f (by decide)]) (by rw [fs_I f (by decide)]) (by rw [fs_I f (by decide)])
theorem ok_alike {N : Nat} (hN : 100000 ≤ N) : OK_alike N Inv := by
  intro M x y ⟨told, m, D, h⟩
  have h' := inv_thr h 0
  have hm := i_m h
  have s := i_shp h
  rcases pk_ix2 x (n := m) (by omega) with hx | ⟨i, hi, rfl⟩
  · refine ⟨-1, M, am_wI M 110 0 0, ?_, sk110 s, ?_, told, m, D, h'⟩
    · unfold fn11_alike fn11_alike_b0 fn11_alike_b28
      rw [cf_no h hx]
      rcases pk_ix2 y (n := m) (by omega) with hy | ⟨o, ho, rfl⟩
      · rw [cf_no h hy, if_pos rfl]
      · rw [cf_yes h ho, if_pos rfl]
    · unfold fn12_alike fn12_alike_b0 fn12_alike_b21
      rw [k_110 h, nk_ck, mi_no h' hx, nk_bd, if_pos rfl]
  have t := i_til h hi
  have hl := i_len h hi
  rcases pk_ix2 y (n := m) (by omega) with hy | ⟨o, ho, rfl⟩
  · refine ⟨-1, M, am_wI M 110 0 0, ?_, sk110 s, ?_, told, m, D, h'⟩
    · unfold fn11_alike fn11_alike_b0 fn11_alike_b28
      rw [cf_yes h hi, cf_no h hy, if_neg (tilr_ne t), if_pos rfl]
    · unfold fn12_alike fn12_alike_b0 fn12_alike_b21
      rw [k_110 h, nk_ck, mi_yes h' hi, nk_bd, if_neg z_1, k_110 h', nk_ck, mi_no h' hy, nk_bd, if_pos rfl]
  have t2 := i_til h ho
  have hl2 := i_len h ho
  have ma : ∀ {K : am_Mem}, InvAt K told m D → fn12_alike N K 110 (nI i) (nI o) = (if (D i).1 = 0 then if (D o).1 = 0 then fn12_alike_b43 N N 110 (nI i) (nI o) 0 (am_wI K 110 0 0) else some (0, am_wI K 110 0 0) else some (0, am_wI K 110 0 0)) := by
    intro K hK
    have hK' := inv_thr hK 0
    unfold fn12_alike fn12_alike_b0 fn12_alike_b39
    rw [k_110 hK, nk_ck, mi_yes hK' hi, nk_bd, if_neg z_1, k_110 hK', nk_ck, mi_yes hK' ho, nk_bd, if_neg z_1, k_110 hK', nk_ck, mv_fail hK' hi, nk_bd, k_110 hK', nk_ck, mv_fail hK' ho, nk_bd]
  have ca : fn11_alike N M 1 (nI i) (nI o) = (if (D i).1 = 0 then if (D o).1 = 0 then if nI (D i).2.2.2.length = nI (D o).2.2.2.length then am_bd (fn10_commonDivisor N M (am_R M 105 i)) (fun v13 M14 => am_ck (am_k M14 (am_R M 105 o) 10) (am_bd (fn10_commonDivisor N M14 (am_R M 105 o)) (fun v17 M18 => am_ck (am_k M18 1 11) (am_ck (am_k M18 (am_R M18 1 4) 0) (am_bd (fn0_takeTurned N M18 (am_R M18 1 4) (am_R M 105 i) (0 : Int32) v13) (fun v22 M23 => fn11_alike_b86 N N 1 (am_R M 105 o) v17 (0 : Int32) M23)))))) else some (0, M) else some (0, M) else some (0, M)) := by
    unfold fn11_alike fn11_alike_b0 fn11_alike_b57
    rw [cf_yes h hi, cf_yes h ho, if_neg (tilr_ne t), if_neg (tilr_ne t2), k_til t, nk_ck, t.2.1.1, k_til t2, nk_ck, t2.2.1.1, t.2.1.2.1, t2.2.1.2.1]
  by_cases f1 : (D i).1 = 0
  case neg =>
    refine ⟨0, M, am_wI M 110 0 0, ?_, sk110 s, ?_, told, m, D, h'⟩
    · rw [ca, if_neg f1]
    · rw [ma h, if_neg f1]
  by_cases f2 : (D o).1 = 0
  case neg =>
    refine ⟨0, M, am_wI M 110 0 0, ?_, sk110 s, ?_, told, m, D, h'⟩
    · rw [ca, if_pos f1, if_neg f2]
    · rw [ma h, if_pos f1, if_neg f2]
  rw [if_pos f1, if_pos f2] at ca
  by_cases hn : (D i).2.2.2.length = (D o).2.2.2.length
  case neg =>
    obtain ⟨v, M', e, fr, r⟩ := al_m hN (o := o) hi ho f1 8 0 N (am_wI M 110 0 0) (by omega) (by omega) (modI_inv h')
    have hv : v = 0 := by
      rcases r with ⟨_, σ, _, _, q, _⟩ | ⟨q, _⟩
      · exact absurd q hn
      · exact q
    subst hv
    refine ⟨0, M, M', ?_, sk110 s, ?_, told, m, D, inv_140 h' fr⟩
    · rw [ca, if_neg (fun q => hn (nI_inj (by omega) (by omega) q))]
    · rw [ma h, if_pos f1, if_pos f2]; exact e
  have g1 : Geo (D i).2.1.toInt (D i).2.2.1.toInt (D i).2.2.2 := by
    rcases good_f (i_good h hi) with ⟨a, b⟩ | ⟨a, b⟩
    · rw [f1] at a; exact absurd a (by decide)
    · exact b
  have g2 : Geo (D o).2.1.toInt (D o).2.2.1.toInt (D o).2.2.2 := by
    rcases good_f (i_good h ho) with ⟨a, b⟩ | ⟨a, b⟩
    · rw [f2] at a; exact absurd a (by decide)
    · exact b
  have hz1 : ¬ nI (gcL (D i).2.2.2) = 0 := nI_ne0 (gcL_pos g1) (gcL_lt _)
  have hz2 : ¬ nI (gcL (D o).2.2.2) = 0 := nI_ne0 (gcL_pos g2) (gcL_lt _)
  obtain ⟨Ma, ea, fa, cc⟩ := tt_ok hN (d := 89) (τ := 0) (c := nI (gcL (D i).2.2.2)) (by decide) hl (by decide) hz1 t (drt_89 s)
  have ha := inv_dW h (Or.inl rfl) fa
  have sa := i_shp ha
  have ta : TilR Ma (am_R M 105 o) (D o) := tilr_dyn (fs_dyn fa (dW_le (by decide))) t2
  obtain ⟨v, Mb, eb, fb, rb⟩ := al_c hN (t2 := am_R M 105 o) (q1 := D i) (q2 := D o) hl2 hn hz2 8 0 N Ma (by omega) (by omega) sa ta cc
  have hb := inv_dW ha (Or.inr rfl) fb
  have hb' := inv_thr hb 0
  obtain ⟨u, Mc, ec, fc, rc⟩ := al_m hN (o := o) hi ho f1 8 0 N (am_wI Mb 110 0 0) (by omega) (by omega) (modI_inv hb')
  have same := al_same g1 g2 hn
  have uv : u = v := by
    rcases rb with ⟨p, σ, _, h1, h2⟩ | ⟨p, q⟩
    · rcases rc with ⟨p', _⟩ | ⟨p', q'⟩
      · rw [p, p']
      · obtain ⟨ρ, r1, r2⟩ := same.mp ⟨σ, h1, h2⟩
        exact absurd ⟨ρ, Nat.zero_le _, r1, hn, r2⟩ q'
    · rcases rc with ⟨p', σ, _, h1, _, h2⟩ | ⟨p', q'⟩
      · obtain ⟨ρ, r1, r2⟩ := same.mpr ⟨σ, h1, h2⟩
        exact absurd ⟨ρ, Nat.zero_le _, r1, r2⟩ q
      · rw [p, p']
  subst uv
  refine ⟨u, Mb, Mc, ?_, sk110 (i_shp hb), ?_, told, m, D, inv_140 hb' fc⟩
  · rw [ca, if_pos (by rw [hn]), gc_cOk hN t g1, nk_bd, k_til t2, nk_ck, gc_cOk hN t2 g2, nk_bd, nk_k, sk1 s, nk_dd, sr1_4 s, nk_k, sk89 s, nk_dd, show (0 : Int32) = nI 0 from rfl, ea, nk_bd]
    exact eb
  · rw [ma hb, if_pos f1, if_pos f2]; exact ec
