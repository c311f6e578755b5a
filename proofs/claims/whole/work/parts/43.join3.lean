theorem i64_mulN {x : Int32} {F : Nat} (hF : F < 2 ^ 31) : (x.toInt64 * lN F).toInt = x.toInt * (F : Int) := by
  rw [← nI_l hF, i64_mulT, nI_toInt hF]
theorem i64_sumN {x y : Int32} {F G : Nat} (hF : F < 2 ^ 31) (hG : G < 2 ^ 31) (hx : 0 ≤ x.toInt ∧ x.toInt ≤ 1000000000) (hy : 0 ≤ y.toInt ∧ y.toInt ≤ 1000000000) : (x.toInt64 * lN F + y.toInt64 * lN G).toInt = x.toInt * (F : Int) + y.toInt * (G : Int) := by
  rw [Int64.toInt_add, i64_mulN hF, i64_mulN hG]
  have a1 : x.toInt * (F : Int) ≤ 1000000000 * 2147483648 := Int.mul_le_mul hx.2 (by omega) (by omega) (by omega)
  have a2 : y.toInt * (G : Int) ≤ 1000000000 * 2147483648 := Int.mul_le_mul hy.2 (by omega) (by omega) (by omega)
  have a3 : 0 ≤ x.toInt * (F : Int) := Int.mul_nonneg hx.1 (by omega)
  have a4 : 0 ≤ y.toInt * (G : Int) := Int.mul_nonneg hy.1 (by omega)
  revert a1 a2 a3 a4
  generalize x.toInt * (F : Int) = p
  generalize y.toInt * (G : Int) = q
  intro a1 a2 a3 a4
  rw [Int.bmod_def]
  omega
theorem i64_mulN32 (x : Int32) (F : Nat) : (x.toInt64 * lN F).toInt32 = x * nI F := by
  rw [Int64.toInt32_mul, Int32.toInt32_toInt64, lN_i]
section
variable {M : am_Mem} {told m : Nat} {D : Nat → Rc}
/-- the two drafts and rows of a joining -/
theorem jn_fin {N : Nat} (hN : 100000 ≤ N) (h : InvAt M told m D) {i o : Nat} (hi : i < m) (ho : o < m) (fi : (D i).1 = 0) (fo : (D o).1 = 0) (hm : m < 12) (h40 : (D i).2.2.2.length + (D o).2.2.2.length ≤ 40) {x3 : Int32} (h3 : x3 = 0 ∨ x3 = 1) {F G : Nat} {jw jh : Int64}
    (nb : ¬ (1000000000 < jw ∨ 1000000000 < jh))
    (cl : fn11_join N M 1 (nI i) (nI o) x3 = fn11_join_b180 N jh 1 x3 (am_R M 105 i) (am_R M 105 o) (nI F) (nI G) ((D i).2.1.toInt64 * lN F) ((D i).2.2.1.toInt64 * lN F) jw M)
    (cm : ∀ M', ModI (am_wI M' 110 0 0) m D → am_K M' 110 = 12 → fn12_join N M' 110 (nI i) (nI o) x3 = fn12_join_b180 N 110 (nI i) (nI o) x3 (lN F) (lN G) jw jh (am_wI M' 110 0 0))
    (gm : Geo jw.toInt32.toInt jh.toInt32.toInt ((D i).2.2.2.map (fun q => (0 + q.1 * nI F, 0 + q.2.1 * nI F, q.2.2 * nI F)) ++ (D o).2.2.2.map (fun q => ((if x3 = 0 then (D i).2.1 * nI F else 0) + q.1 * nI G, (if x3 = 0 then 0 else (D i).2.2.1 * nI F) + q.2.1 * nI G, q.2.2 * nI G)))) :
    ∃ (v : Int32) (M1 M2 : am_Mem), fn11_join N M 1 (nI i) (nI o) x3 = some (v, M1) ∧ am_K M1 110 = 12 ∧ fn12_join N M1 110 (nI i) (nI o) x3 = some (v, M2) ∧ Inv M2 := by
  have s := i_shp h
  have ti := i_til h hi
  have to := i_til h ho
  have li := i_len h hi
  obtain ⟨f, hfd⟩ : ∃ f, f = catF (D i).2.2.2.length (scF (nI F) 0 0 (D i).2.2.2) (scF (nI G) (if x3 = 0 then (D i).2.1 * nI F else 0) (if x3 = 0 then 0 else (D i).2.2.1 * nI F) (D o).2.2.2) := ⟨_, rfl⟩
  have fA : ∀ k, k < (D i).2.2.2.length → f k = scF (nI F) 0 0 (D i).2.2.2 k := fun k hk => by rw [hfd]; exact if_pos hk
  have fB : ∀ k, f ((D i).2.2.2.length + k) = scF (nI G) (if x3 = 0 then (D i).2.1 * nI F else 0) (if x3 = 0 then 0 else (D i).2.2.1 * nI F) (D o).2.2.2 k := fun k => by
    rw [hfd]
    unfold catF
    rw [if_neg (by omega), Nat.add_sub_cancel_left]
  have fL : ofF f ((D i).2.2.2.length + (D o).2.2.2.length) = (D i).2.2.2.map (fun q => (0 + q.1 * nI F, 0 + q.2.1 * nI F, q.2.2 * nI F)) ++ (D o).2.2.2.map (fun q => ((if x3 = 0 then (D i).2.1 * nI F else 0) + q.1 * nI G, (if x3 = 0 then 0 else (D i).2.2.1 * nI F) + q.2.1 * nI G, q.2.2 * nI G)) := by
    rw [hfd, catF_of, scF_of, scF_of]
  obtain ⟨Ma, ea, fa, ca⟩ := dr_begin (drt_89 s) jw.toInt32 jh.toInt32 f
  have sa := fs_shp fa s
  have da := fs_dyn fa (dW_le (by decide))
  obtain ⟨Ma2, ea2, fa2, ca2⟩ := dr_timesAll hN (d := 89) (n0 := 0) (by decide) (nI F) 0 0 (by omega) (fun k hk => by rw [Nat.zero_add, fA k hk]; rfl) (tilr_dyn da ti) (drt_89 sa) ca
  rw [Nat.zero_add] at ca2
  have sa2 := fs_shp fa2 sa
  have da2 := dyn_trans da (fs_dyn fa2 (dW_le (by decide)))
  obtain ⟨Ma3, ea3, fa3, ca3⟩ := dr_timesAll hN (d := 89) (n0 := (D i).2.2.2.length) (by decide) (nI G) (if x3 = 0 then (D i).2.1 * nI F else 0) (if x3 = 0 then 0 else (D i).2.2.1 * nI F) h40 (fun k hk => by rw [fB k]; rfl) (tilr_dyn da2 to) (drt_89 sa2) ca2
  have sa3 := fs_shp fa3 sa2
  obtain ⟨Mb, u, hub, eb, pb, kb, mb⟩ := act_c hN h hm (fs_trans (fs_trans fa fa2) fa3) ca3 h40
  have mb' := modI_thr mb 0
  obtain ⟨Mt, et, ft, rt⟩ := tk_ok hN mb' hi fi
  have mt := modI_fs ft (by decide) (by rw [fs_I ft (by decide)]) mb'
  obtain ⟨Mg, eg, fg, rg⟩ := grw_ok hN (nI F) mt.1 rt li
  have mg := modI_fs fg (by decide) (by rw [fs_I fg (by decide)]) mt
  have rd : RoD Mg (D i).2.2.2.length ((D i).2.2.2.length + 0) ((D i).2.1 * nI F) ((D i).2.2.1 * nI F) f := by
    refine ⟨rg.1, rg.2.1, rg.2.2.1, rg.2.2.2.1, fun k hk => ?_⟩
    have := rg.2.2.2.2 k (by omega)
    rw [fA k (by omega)]
    unfold scF
    rw [Int32.zero_add, Int32.zero_add]
    exact this
  obtain ⟨Ml, el, fl, rl⟩ := jn_loop (N := N) (j12 := jw) (j14 := jh) ho h40 h3 (fun k hk => by rw [fB k]; rfl) (D o).2.2.2.length 0 N Mg (by omega) (by omega) mg rd
  have m140 : (140 : Nat) ∈ [140] := List.mem_cons_self
  have fz : Fs [140] Ml (am_wI (am_wI (am_wI Ml 140 0 (nI ((D i).2.2.2.length + (D o).2.2.2.length))) 140 1 jw.toInt32) 140 2 jh.toInt32) := fs_trans (fs_trans (fs_wI _ _ _ m140) (fs_wI _ _ _ m140)) (fs_wI _ _ _ m140)
  have rz : RoC (am_wI (am_wI (am_wI Ml 140 0 (nI ((D i).2.2.2.length + (D o).2.2.2.length))) 140 1 jw.toInt32) 140 2 jh.toInt32) ((D i).2.2.2.length + (D o).2.2.2.length) jw.toInt32 jh.toInt32 f := by
    obtain ⟨c1, c2, c3, c4, c5⟩ := rl
    refine ⟨?_, ?_, rI_eq _ _ _ _, ?_, fun k hk => ?_⟩
    · simp (disch := omega) only [rI_ix, rI_eq]
    · simp (disch := omega) only [rI_ix, rI_eq]
    · simp (disch := omega) only [rI_ix, c4]
    · obtain ⟨d1, d2, d3⟩ := c5 k hk
      simp (disch := omega) only [rI_ix, d1, d2, d3, and_self]
  obtain ⟨Md, ed, vd⟩ := act_m hN h hm hub pb (fs_trans (fs_trans (fs_trans (fs_trans (fs_wI Mb 0 0 (by decide)) (fs_mono ft (by decide))) (fs_mono fg (by decide))) (fs_mono fl (by decide))) (fs_mono fz (by decide))) (fun j hj => by rw [fs_I fz (by decide), fs_I fl (by decide), fs_I fg (by decide), fs_I ft (by decide), rI_ix _ _ _ hj]) rz h40 (good_made (by rw [fL]; exact gm))
  refine ⟨nI m, Mb, Md, ?_, kb, ?_, vd⟩
  · rw [cl]
    unfold fn11_join_b180
    rw [tl_eq, nk_bd, if_neg nb, if_pos rfl, nk_k, sk1 s, nk_dd, sr1_4 s, nk_k, sk89 s, nk_dd, ea, nk_bd, nk_k, sk1 sa, nk_dd, sr1_4 sa, nk_k, sk89 sa, nk_dd, ea2, nk_bd, nk_k, sk1 sa2, nk_dd, sr1_4 sa2, i64_mulN32]
    rcases h3 with rfl | rfl
    · simp only [if_true] at ea3
      rw [if_pos rfl]
      unfold fn11_join_b239 fn11_join_b250
      rw [if_pos rfl, nk_k, sk89 sa2, nk_dd, ea3, nk_bd, nk_k, sk1 sa3, nk_dd, eb, nk_bd]
    · simp only [z_1, if_false] at ea3
      rw [if_neg z_1]
      unfold fn11_join_b239 fn11_join_b250
      rw [if_neg z_1, nk_k, sk89 sa2, nk_dd, i64_mulN32, ea3, nk_bd, nk_k, sk1 sa3, nk_dd, eb, nk_bd]
  · rw [cm Mb mb' kb]
    unfold fn12_join_b180 fn12_join_b220
    have nw : ¬ 0 < lg_cmp jw 1000000000 := by rw [lg_cmp_gt]; exact fun e => nb (Or.inl e)
    have nh : lg_cmp jh 1000000000 ≤ 0 := by rw [lg_cmp_le]; exact Int64.not_lt.mp (fun e => nb (Or.inr e))
    rw [if_neg nw, if_pos nh, nk_k, sk110 mb'.1, nk_dd, et, nk_bd, nk_k, sk110 mt.1, nk_dd, lN_i, eg, nk_bd, nk_k, sk110 mg.1, nk_dd, sr110_48 mg.1, nk_k, sk140 mg.1, nk_dd, sl140 mg.1, show am_in (0 : Int32) 124 = true from rfl, nk_ck, show (0 : Int32).toNatClampNeg = 0 from rfl, rg.1, show fn12_join_b223 N N 110 (nI o) x3 (lN G) jw jh (nI (D i).2.2.2.length) 0 Mg = _ from el, ed, nk_bd]
end
theorem ok_join {N : Nat} (hN : 100000 ≤ N) : OK_join N Inv := by
  intro M x y z hz ⟨told, m, D, h⟩
  have h' := inv_thr h 0
  have hm := i_m h
  have s := i_shp h
  have mi := modI_thr (modI_inv h) 0
  have fin : fn11_join N M 1 x y z = some (-1, M) → fn12_join N M 110 x y z = some (-1, am_wI M 110 0 0) → ∃ (v : Int32) (M1 M2 : am_Mem), fn11_join N M 1 x y z = some (v, M1) ∧ am_K M1 110 = 12 ∧ fn12_join N M1 110 x y z = some (v, M2) ∧ Inv M2 :=
    fun a b => ⟨-1, M, am_wI M 110 0 0, a, sk110 s, b, told, m, D, h'⟩
  have us : ∀ x : Int32, (fn11_usable M 1 x = some (0, M) ∧ fn12_canMake (am_wI M 110 0 0) 110 x = some (0, am_wI M 110 0 0)) ∨ (∃ i, i < m ∧ x = nI i ∧ (D i).1 = 0 ∧ m < 12) := by
    intro x
    rcases pk_ix2 x (n := m) (by omega) with hx | ⟨i, hi, rfl⟩
    · exact Or.inl ⟨cu_no h hx, mw_can_no mi hx⟩
    · by_cases hf : (D i).1 = 1 ∨ m = 12
      · exact Or.inl ⟨cu_no2 h hi hf, mw_can_no2 mi hi hf⟩
      · refine Or.inr ⟨i, hi, rfl, ?_, ?_⟩
        · rcases good_01 (i_good h hi) with e | e
          · exact e
          · exact absurd (Or.inl e) hf
        · have : ¬ m = 12 := fun e => hf (Or.inr e)
          omega
  rcases us x with ⟨a1, a2⟩ | ⟨i, hi, rfl, fi, hm12⟩
  · refine fin ?_ ?_
    · unfold fn11_join fn11_join_b0 fn11_join_b40
      rcases us y with ⟨b1, b2⟩ | ⟨o, ho, rfl, fo, _⟩
      · rw [nk_k, sk1 s, nk_dd, a1, nk_bd, nk_k, sk1 s, nk_dd, b1, nk_bd, if_pos rfl]
      · rw [nk_k, sk1 s, nk_dd, a1, nk_bd, nk_k, sk1 s, nk_dd, cu_yes h ho fo (by assumption), nk_bd, if_pos rfl]
    · unfold fn12_join fn12_join_b0 fn12_join_b39
      rw [nk_k, sk110 s, nk_dd, a2, nk_bd, if_pos rfl]
  have ti := i_til h hi
  rcases us y with ⟨b1, b2⟩ | ⟨o, ho, rfl, fo, _⟩
  · refine fin ?_ ?_
    · unfold fn11_join fn11_join_b0 fn11_join_b40
      rw [nk_k, sk1 s, nk_dd, cu_yes h hi fi hm12, nk_bd, nk_k, sk1 s, nk_dd, b1, nk_bd, if_neg (tilr_ne ti), if_pos rfl]
    · unfold fn12_join fn12_join_b0 fn12_join_b39
      rw [nk_k, sk110 s, nk_dd, mw_can mi hi fi hm12, nk_bd, if_neg z_1, nk_k, sk110 mi.1, nk_dd, b2, nk_bd, if_pos rfl]
  have to := i_til h ho
  have li := i_len h hi
  have lo := i_len h ho
  by_cases h40 : ¬ (D i).2.2.2.length + (D o).2.2.2.length ≤ 40
  · have c40 : ¬ nI (D i).2.2.2.length + nI (D o).2.2.2.length ≤ 40 := by rw [nI_add]; exact nI_ge (a := 40) (by omega) (by omega)
    refine fin ?_ ?_
    · unfold fn11_join fn11_join_b0 fn11_join_b40
      rw [nk_k, sk1 s, nk_dd, cu_yes h hi fi hm12, nk_bd, nk_k, sk1 s, nk_dd, cu_yes h ho fo hm12, nk_bd, if_neg (tilr_ne ti), if_neg (tilr_ne to), k_til ti, nk_ck, k_til to, nk_ck, ti.2.1.2.1, to.2.1.2.1, if_neg c40]
    · unfold fn12_join fn12_join_b0 fn12_join_b39
      rw [nk_k, sk110 s, nk_dd, mw_can mi hi fi hm12, nk_bd, if_neg z_1, nk_k, sk110 mi.1, nk_dd, mw_can mi ho fo hm12, nk_bd, if_neg z_1, nk_k, sk110 mi.1, nk_dd, mw_n mi hi, nk_bd, nk_k, sk110 mi.1, nk_dd, mw_n mi ho, nk_bd, if_neg c40]
  have h40 := Decidable.not_not.mp h40
  have gi : Geo (D i).2.1.toInt (D i).2.2.1.toInt (D i).2.2.2 := by
    rcases i_good h hi with g | g
    · rw [fi] at g; exact absurd g.1 (by decide)
    · exact g.2
  have go : Geo (D o).2.1.toInt (D o).2.2.1.toInt (D o).2.2.2 := by
    rcases i_good h ho with g | g
    · rw [fo] at g; exact absurd g.1 (by decide)
    · exact g.2
  have pi := geo_pos gi
  have po := geo_pos go
  have bi := gi.2.2
  have bo := go.2.2
  obtain ⟨a, ha⟩ : ∃ a : Nat, a = ((if z = 0 then (D i).2.2.1 else (D i).2.1) : Int32).toInt.toNat := ⟨_, rfl⟩
  obtain ⟨b, hb⟩ : ∃ b : Nat, b = ((if z = 0 then (D o).2.2.1 else (D o).2.1) : Int32).toInt.toNat := ⟨_, rfl⟩
  have ra : 1 ≤ a ∧ a < 2 ^ 31 ∧ (if z = 0 then (D i).2.2.1 else (D i).2.1) = nI a := by
    by_cases e : z = 0
    · rw [if_pos e] at ha ⊢
      exact ⟨by omega, by omega, by rw [ha]; exact nk_ex (by omega)⟩
    · rw [if_neg e] at ha ⊢
      exact ⟨by omega, by omega, by rw [ha]; exact nk_ex (by omega)⟩
  have rb : 1 ≤ b ∧ b < 2 ^ 31 ∧ (if z = 0 then (D o).2.2.1 else (D o).2.1) = nI b := by
    by_cases e : z = 0
    · rw [if_pos e] at hb ⊢
      exact ⟨by omega, by omega, by rw [hb]; exact nk_ex (by omega)⟩
    · rw [if_neg e] at hb ⊢
      exact ⟨by omega, by omega, by rw [hb]; exact nk_ex (by omega)⟩
  have cl := jn_c hN h hi ho fi fo hm12 h40 hz ra.1 rb.1 ra.2.1 rb.2.1 ra.2.2 rb.2.2
  have cm : ∀ M', ModI (am_wI M' 110 0 0) m D → am_K M' 110 = 12 → _ := fun M' q k => jn_m hN q k hi ho fi fo hm12 h40 hz ra.1 rb.1 ra.2.1 rb.2.1 ra.2.2 rb.2.2
  obtain ⟨g1, g2, g3, g4⟩ := jn_fac ra.1 rb.1
  have Fl : b / Nat.gcd a b < 2 ^ 31 := Nat.lt_of_le_of_lt (Nat.div_le_self _ _) rb.2.1
  have Gl : a / Nat.gcd a b < 2 ^ 31 := Nat.lt_of_le_of_lt (Nat.div_le_self _ _) ra.2.1
  revert cl cm g2 g3 g4 Fl Gl
  generalize b / Nat.gcd a b = F
  generalize a / Nat.gcd a b = G
  intro cl cm g2 g3 g4 Fl Gl
  have hF1 : 1 ≤ (nI F).toInt := by rw [nI_toInt Fl]; omega
  have hG1 : 1 ≤ (nI G).toInt := by rw [nI_toInt Gl]; omega
  have bT : (1000000000 : Int64).toInt = 1000000000 := rfl
  by_cases big : 1000000000 < (if z = 0 then (D i).2.1.toInt64 * lN F + (D o).2.1.toInt64 * lN G else (D i).2.1.toInt64 * lN F) ∨ 1000000000 < (if z = 0 then (D i).2.2.1.toInt64 * lN F else (D i).2.2.1.toInt64 * lN F + (D o).2.2.1.toInt64 * lN G)
  · refine fin ?_ ?_
    · rw [cl]
      unfold fn11_join_b180
      rw [tl_eq, nk_bd, if_pos big, if_neg z_1]
    · rw [cm M mi (sk110 s)]
      unfold fn12_join_b180 fn12_join_b198
      simp only [lg_cmp_gt, lg_cmp_le]
      by_cases b1 : 1000000000 < (if z = 0 then (D i).2.1.toInt64 * lN F + (D o).2.1.toInt64 * lN G else (D i).2.1.toInt64 * lN F)
      · rw [if_pos b1]
      · rw [if_neg b1, if_neg (Int64.not_le.mpr (big.resolve_left b1))]
  refine jn_fin hN h hi ho fi fo hm12 h40 hz big cl cm ?_
  have hab : (a : Int) * (F : Int) = (b : Int) * (G : Int) := by
    have : ((a * F : Nat) : Int) = ((b * G : Nat) : Int) := by rw [g4]
    rw [Int.natCast_mul, Int.natCast_mul] at this
    exact this
  have nz : ∀ {x : Int} {F : Nat}, 0 ≤ x → 0 ≤ x * (F : Int) := fun hx => Int.mul_nonneg hx (by omega)
  have FT : (nI F).toInt = (F : Int) := nI_toInt Fl
  have GT : (nI G).toInt = (G : Int) := nI_toInt Gl
  rcases hz with rfl | rfl
  · simp only [if_true] at big ra rb ⊢
    have w64 := i64_sumN (x := (D i).2.1) (y := (D o).2.1) Fl Gl (by omega) (by omega)
    have h64 := i64_mulN (x := (D i).2.2.1) Fl
    have bw : (D i).2.1.toInt * (F : Int) + (D o).2.1.toInt * (G : Int) ≤ 1000000000 := by
      have := Int64.not_lt.mp (fun e => big (Or.inl e))
      rw [Int64.le_iff_toInt_le, w64, bT] at this
      exact this
    have bh : (D i).2.2.1.toInt * (F : Int) ≤ 1000000000 := by
      have := Int64.not_lt.mp (fun e => big (Or.inr e))
      rw [Int64.le_iff_toInt_le, h64, bT] at this
      exact this
    have ea : (D i).2.2.1.toInt = (a : Int) := by rw [ra.2.2, nI_toInt ra.2.1]
    have eb : (D o).2.2.1.toInt = (b : Int) := by rw [rb.2.2, nI_toInt rb.2.1]
    have n1 := nz (F := F) (show 0 ≤ (D i).2.1.toInt by omega)
    have n2 := nz (F := G) (show 0 ≤ (D o).2.1.toInt by omega)
    have n3 := nz (F := F) (show 0 ≤ (D i).2.2.1.toInt by omega)
    have eh : (D i).2.2.1.toInt * (F : Int) = (D o).2.2.1.toInt * (G : Int) := by rw [ea, eb]; exact hab
    have s1 := geo_scale gi hF1 (by rw [FT]; omega) (by rw [FT]; omega)
    have s2 := geo_scale go hG1 (by rw [GT]; omega) (by rw [GT]; omega)
    have eH : ((D o).2.2.1 * nI G).toInt = ((D i).2.2.1 * nI F).toInt := by
      rw [i32_mul (by rw [GT]; omega) (by rw [GT]; omega), i32_mul (by rw [FT]; omega) (by rw [FT]; omega), GT, FT, eh]
    have eW1 : ((D i).2.1 * nI F).toInt = (D i).2.1.toInt * (F : Int) := by rw [i32_mul (by rw [FT]; omega) (by rw [FT]; omega), FT]
    have eW2 : ((D o).2.1 * nI G).toInt = (D o).2.1.toInt * (G : Int) := by rw [i32_mul (by rw [GT]; omega) (by rw [GT]; omega), GT]
    rw [eH] at s2
    have g := geo_appR s1 s2 (by rw [List.length_map, List.length_map]; exact h40) (by rw [eW1, eW2]; exact bw)
    rw [List.map_map] at g
    rw [Int64.toInt32_add, i64_mulN32, i64_mulN32, i64_mulN32]
    have m1 : (D i).2.2.2.map (fun q => ((0 : Int32) + q.1 * nI F, (0 : Int32) + q.2.1 * nI F, q.2.2 * nI F)) = (D i).2.2.2.map (fun q => (q.1 * nI F, q.2.1 * nI F, q.2.2 * nI F)) :=
      List.map_congr_left (fun q _ => by rw [Int32.zero_add, Int32.zero_add])
    have m2 : (D o).2.2.2.map (fun q => ((D i).2.1 * nI F + q.1 * nI G, (0 : Int32) + q.2.1 * nI G, q.2.2 * nI G)) = (D o).2.2.2.map ((fun q => ((D i).2.1 * nI F + q.1, q.2.1, q.2.2)) ∘ fun q => (q.1 * nI G, q.2.1 * nI G, q.2.2 * nI G)) :=
      List.map_congr_left (fun q _ => by rw [Int32.zero_add]; rfl)
    rw [m1, m2]
    exact g
  · simp only [z_1, if_false] at big ra rb ⊢
    have h64 := i64_sumN (x := (D i).2.2.1) (y := (D o).2.2.1) Fl Gl (by omega) (by omega)
    have w64 := i64_mulN (x := (D i).2.1) Fl
    have bh : (D i).2.2.1.toInt * (F : Int) + (D o).2.2.1.toInt * (G : Int) ≤ 1000000000 := by
      have := Int64.not_lt.mp (fun e => big (Or.inr e))
      rw [Int64.le_iff_toInt_le, h64, bT] at this
      exact this
    have bw : (D i).2.1.toInt * (F : Int) ≤ 1000000000 := by
      have := Int64.not_lt.mp (fun e => big (Or.inl e))
      rw [Int64.le_iff_toInt_le, w64, bT] at this
      exact this
    have ea : (D i).2.1.toInt = (a : Int) := by rw [ra.2.2, nI_toInt ra.2.1]
    have eb : (D o).2.1.toInt = (b : Int) := by rw [rb.2.2, nI_toInt rb.2.1]
    have n1 := nz (F := F) (show 0 ≤ (D i).2.2.1.toInt by omega)
    have n2 := nz (F := G) (show 0 ≤ (D o).2.2.1.toInt by omega)
    have n3 := nz (F := F) (show 0 ≤ (D i).2.1.toInt by omega)
    have eh : (D i).2.1.toInt * (F : Int) = (D o).2.1.toInt * (G : Int) := by rw [ea, eb]; exact hab
    have s1 := geo_scale gi hF1 (by rw [FT]; omega) (by rw [FT]; omega)
    have s2 := geo_scale go hG1 (by rw [GT]; omega) (by rw [GT]; omega)
    have eW : ((D o).2.1 * nI G).toInt = ((D i).2.1 * nI F).toInt := by
      rw [i32_mul (by rw [GT]; omega) (by rw [GT]; omega), i32_mul (by rw [FT]; omega) (by rw [FT]; omega), GT, FT, eh]
    have eH1 : ((D i).2.2.1 * nI F).toInt = (D i).2.2.1.toInt * (F : Int) := by rw [i32_mul (by rw [FT]; omega) (by rw [FT]; omega), FT]
    have eH2 : ((D o).2.2.1 * nI G).toInt = (D o).2.2.1.toInt * (G : Int) := by rw [i32_mul (by rw [GT]; omega) (by rw [GT]; omega), GT]
    rw [eW] at s2
    have g := geo_appB s1 s2 (by rw [List.length_map, List.length_map]; exact h40) (by rw [eH1, eH2]; exact bh)
    rw [List.map_map] at g
    rw [Int64.toInt32_add, i64_mulN32, i64_mulN32, i64_mulN32]
    have m1 : (D i).2.2.2.map (fun q => ((0 : Int32) + q.1 * nI F, (0 : Int32) + q.2.1 * nI F, q.2.2 * nI F)) = (D i).2.2.2.map (fun q => (q.1 * nI F, q.2.1 * nI F, q.2.2 * nI F)) :=
      List.map_congr_left (fun q _ => by rw [Int32.zero_add, Int32.zero_add])
    have m2 : (D o).2.2.2.map (fun q => ((0 : Int32) + q.1 * nI G, (D i).2.2.1 * nI F + q.2.1 * nI G, q.2.2 * nI G)) = (D o).2.2.2.map ((fun q => (q.1, (D i).2.2.1 * nI F + q.2.1, q.2.2)) ∘ fun q => (q.1 * nI G, q.2.1 * nI G, q.2.2 * nI G)) :=
      List.map_congr_left (fun q _ => by rw [Int32.zero_add]; rfl)
    rw [m1, m2]
    exact g
