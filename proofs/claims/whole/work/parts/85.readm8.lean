/-- what reading a line leaves as it was, names and kinds and all, the reference -/
def RlM (M M' : am_Mem) (t : Nat) : Prop := Fs [110, 112, 113, 114, 115, 116] M M' ∧ (∀ y, ¬ y = 4 → ¬ y = 5 → ¬ y = 6 → ¬ y = 7 → ¬ y = 9 → ¬ y = 10 → ¬ y = 11 → am_I M' 110 y = am_I M 110 y) ∧ (∀ u, ¬ u = t → am_J M' 112 u = am_J M 112 u ∧ am_I M' 113 u = am_I M 113 u ∧ am_I M' 114 u = am_I M 114 u ∧ am_I M' 115 u = am_I M 115 u) ∧ ∀ j, j < 29 * t → am_I M' 116 j = am_I M 116 j
theorem rlm_trans {M M1 M2 : am_Mem} {t : Nat} (h : RlM M M1 t) (g : RlM M1 M2 t) : RlM M M2 t :=
  ⟨fs_trans h.1 g.1, fun y a b c d e f k => (g.2.1 y a b c d e f k).trans (h.2.1 y a b c d e f k), fun u a => ⟨(g.2.2.1 u a).1.trans (h.2.2.1 u a).1, (g.2.2.1 u a).2.1.trans (h.2.2.1 u a).2.1, (g.2.2.1 u a).2.2.1.trans (h.2.2.1 u a).2.2.1, (g.2.2.1 u a).2.2.2.trans (h.2.2.1 u a).2.2.2⟩, fun j a => (g.2.2.2 j a).trans (h.2.2.2 j a)⟩
theorem rlm_refl (M : am_Mem) (t : Nat) : RlM M M t := ⟨fs_refl _ _, fun _ _ _ _ _ _ _ _ => rfl, fun _ _ => ⟨rfl, rfl, rfl, rfl⟩, fun _ _ => rfl⟩
theorem rlm_rf {M M' : am_Mem} {t : Nat} (h : RfM M M' t) : RlM M M' t :=
  ⟨fs_mono h.1 (by decide), fun y a b c d e f _ => h.2.1 y a b c d e f, fun u hu => ⟨by rw [fs_J h.1 (by decide)], by rw [fs_I h.1 (by decide)], h.2.2.1 u hu, by rw [fs_I h.1 (by decide)]⟩, h.2.2.2⟩
theorem rlm_nm {M M' : am_Mem} {t : Nat} (f : Fs [110, 112] M M') (o : ∀ y, ¬ y = 4 → ¬ y = 5 → ¬ y = 6 → ¬ y = 7 → ¬ y = 9 → ¬ y = 10 → am_I M' 110 y = am_I M 110 y) (o2 : ∀ i, ¬ i = t → am_J M' 112 i = am_J M 112 i) : RlM M M' t :=
  ⟨fs_mono f (by decide), fun y a b c d e g _ => o y a b c d e g, fun u hu => ⟨o2 u hu, by rw [fs_I f (by decide)], by rw [fs_I f (by decide)], by rw [fs_I f (by decide)]⟩, fun j _ => by rw [fs_I f (by decide)]⟩
theorem rlm_15 (M : am_Mem) (t : Nat) (v : Int32) : RlM M (am_wI M 115 t v) t :=
  ⟨fs_wI _ _ _ (by decide), fun y _ _ _ _ _ _ _ => by rw [rI_ne _ _ _ (by decide)], fun u hu => ⟨by rw [qJ_wI], by rw [rI_ne _ _ _ (by decide)], by rw [rI_ne _ _ _ (by decide)], by rw [rI_ix _ _ _ hu]⟩, fun j _ => by rw [rI_ne _ _ _ (by decide)]⟩
theorem rlm_1314 (M : am_Mem) (t : Nat) (v w : Int32) : RlM M (am_wI (am_wI M 113 t v) 114 t w) t :=
  ⟨fs_trans (fs_wI _ _ _ (by decide)) (fs_wI _ _ _ (by decide)), fun y _ _ _ _ _ _ _ => by rw [rI_ne _ _ _ (by decide), rI_ne _ _ _ (by decide)], fun u hu => ⟨by rw [qJ_wI, qJ_wI], by rw [rI_ne _ _ _ (by decide), rI_ix _ _ _ hu], by rw [rI_ix _ _ _ hu, rI_ne _ _ _ (by decide)], by rw [rI_ne _ _ _ (by decide), rI_ne _ _ _ (by decide)]⟩, fun j _ => by rw [rI_ne _ _ _ (by decide), rI_ne _ _ _ (by decide)]⟩
section
variable {T : Nat → Int32} {n t : Nat}
/-- a net after its name, the reference -/
theorem nl_m {N p : Nat} {M : am_Mem} (hN : 100000 ≤ N) (hn : n ≤ 600) (hB : ∀ x, x < n → isB (T x)) (ht : t < 6) (h : MAt T n p M) (e9 : am_I M 110 9 = 0) (e11 : am_I M 110 11 = nI t) (e14 : am_I M 114 t = nI 0) : ∃ v M', (if (am_I M 110 6) = (2 : Int32) then fn12_netLine_b23 N 110 (1 : Int32) 110 M else fn12_netLine_b23 N 110 (0 : Int32) 110 M) = some (v, M') ∧ RlM M M' t ∧ am_J M' 112 t = am_J M 112 t ∧ am_I M' 113 t = am_I M 113 t ∧ am_I M' 110 11 = nI t ∧ (((nNt T n p).1 = 0 ∧ v = 1 ∧ am_I M' 110 9 = 0 ∧ MAt T n (nNt T n p).2.1 M' ∧ am_I M' 115 t = nI (nNt T n p).2.2.1 ∧ PutM M M' t 0 ((nNt T n p).2.2.2.map nI)) ∨ (¬ (nNt T n p).1 = 0 ∧ v = 0 ∧ FtM M' (nNt T n p).1)) := by
  have s := h.1
  have hp := h.2.2.1
  have bad : ∀ k : Int32, RlM M (am_wI (am_wI M 110 9 k) 110 10 (nI (tkS T n p))) t ∧ am_J (am_wI (am_wI M 110 9 k) 110 10 (nI (tkS T n p))) 112 t = am_J M 112 t ∧ am_I (am_wI (am_wI M 110 9 k) 110 10 (nI (tkS T n p))) 113 t = am_I M 113 t ∧ am_I (am_wI (am_wI M 110 9 k) 110 10 (nI (tkS T n p))) 110 11 = nI t := fun k =>
    ⟨rlm_rf (rfm_mu M t k _), by rw [qJ_wI, qJ_wI], by rw [rI_ne _ _ _ (by decide), rI_ne _ _ _ (by decide)], by rw [rI_ix _ _ _ (by decide), rI_ix _ _ _ (by decide)]; exact e11⟩
  unfold fn12_netLine_b23 fn12_netLine_b52 nNt
  rw [ma_k h]
  by_cases k2 : tkK T n p = 2
  · rw [if_pos ((km_all T n p).2.2.1.mpr k2), if_pos k2, nk_k, sk110 s, nk_dd, mu_1 s e9, nk_bd, if_neg z_1, nk_k, sk110 s, nk_dd, ma_v h k2, show fn12_within M (nI (tkV T n p)).toInt64 2 9 = _ from wi_lit M (nI (tkV T n p)) 2 9, nk_bd, nk_k, sk110 s, nk_dd]
    have vl : tkV T n p < 10000 := dN_lt (tk_2 k2).2
    by_cases v1 : tkV T n p < 2 ∨ 9 < tkV T n p
    · have z : ¬ ((2 : Int32) ≤ nI (tkV T n p) ∧ nI (tkV T n p) ≤ 9) := by
        rintro ⟨a, b⟩
        rcases v1 with v1 | v1
        · exact nI_ge (b := 2) v1 (by decide) a
        · exact nI_ge (a := 9) v1 (by omega) b
      rw [if_neg z, if_pos v1, mu_0 h e9 (by decide), nk_bd, if_pos rfl]
      obtain ⟨b1, b2, b3, b4⟩ := bad 3
      exact ⟨0, _, rfl, b1, b2, b3, b4, Or.inr ⟨ft_3 hn hp, rfl, mu_ft 3⟩⟩
    · have z : ((2 : Int32) ≤ nI (tkV T n p) ∧ nI (tkV T n p) ≤ 9) := ⟨nI_le (a := 2) (by omega) (by omega), nI_le (b := 9) (by omega) (by decide)⟩
      have f1 : Fs [115] M (am_wI M 115 t (nI (tkV T n p))) := fs_wI _ _ _ (by decide)
      have r1 := rlm_15 M t (nI (tkV T n p))
      have e15 : am_I (am_wI M 115 t (nI (tkV T n p))) 115 t = nI (tkV T n p) := rI_eq _ _ _ _
      rw [if_pos z, if_neg v1, mu_1 s e9, nk_bd, if_neg z_1, nk_k, sk110 s, nk_dd, sr110_15 s, nk_k, sk115 s, nk_dd, e11, sl115 s, nk_in ht (by decide), nk_ck, nI_clamp (by omega), ma_v h k2]
      revert f1 r1 e15
      generalize am_wI M 115 t (nI (tkV T n p)) = M1
      intro f1 r1 e15
      have h1 := ma_fs h f1 (by decide) (by decide)
      obtain ⟨M2, a1, a2, a3, a4⟩ := ma_nx hN hn hB h1
      have r2 := rlm_trans r1 (rlm_rf (rfm_nx t a2 a3))
      have e92 : am_I M2 110 9 = 0 := by rw [a3 9 (by decide) (by decide) (by decide) (by decide), fs_I f1 (by decide)]; exact e9
      have e112 : am_I M2 110 11 = nI t := by rw [a3 11 (by decide) (by decide) (by decide) (by decide), fs_I f1 (by decide)]; exact e11
      have e142 : am_I M2 114 t = nI 0 := by rw [fs_I a2 (by decide), fs_I f1 (by decide)]; exact e14
      have e152 : am_I M2 115 t = nI (tkV T n p) := by rw [fs_I a2 (by decide)]; exact e15
      obtain ⟨v, M3, b1, b2, b3⟩ := ws_m (N := N) (P := tkV T n p) hN hn hB ht vl 15 (tkE T n p) 0 N M2 (by omega) (by omega) (by omega) a4 e92 e112 e142 e152
      rw [a1, nk_bd]
      refine ⟨v, M3, b1, rlm_trans r2 (rlm_rf b2), ?_, ?_, ?_, ?_⟩
      · rw [fs_J b2.1 (by decide), fs_J a2 (by decide), fs_J f1 (by decide)]
      · rw [fs_I b2.1 (by decide), fs_I a2 (by decide), fs_I f1 (by decide)]
      · rw [b2.2.1 11 (by decide) (by decide) (by decide) (by decide) (by decide) (by decide)]; exact e112
      · rcases b3 with ⟨c1, c2, c3, c4, c5⟩ | c
        · refine Or.inl ⟨c1, c2, c3, c4, ?_, ?_⟩
          · rw [fs_I b2.1 (by decide)]; exact e152
          · exact ⟨c5.1, fun i hi => absurd hi (Nat.not_lt_zero i), c5.2.2⟩
        · exact Or.inr c
  · rw [if_neg (fun z => k2 ((km_all T n p).2.2.1.mp z)), if_neg k2, nk_k, sk110 s, nk_dd, mu_0 h e9 (by decide), nk_bd, if_pos rfl]
    obtain ⟨b1, b2, b3, b4⟩ := bad 1
    exact ⟨0, _, rfl, b1, b2, b3, b4, Or.inr ⟨ft_1 hn hp, rfl, mu_ft 1⟩⟩
/-- what the reference holds of a line -/
def LdM (M : am_Mem) (i : Nat) (d : Ld) : Prop := (d.1 = 0 ∧ am_I M 113 i = 0 ∧ am_I M 114 i = nI (sgG 99 d.2.1).length ∧ ∀ j (h : j < (sgG 99 d.2.1).length), am_I M 116 (29 * i + j) = (sgG 99 d.2.1)[j]) ∨
  (d.1 = 1 ∧ am_I M 113 i = 1 ∧ am_I M 114 i = nI d.2.2.2.length ∧ am_I M 115 i = nI d.2.2.1 ∧ ∀ j (h : j < d.2.2.2.length), am_I M 116 (29 * i + j) = nI (d.2.2.2[j]))
/-- what a line leaves, the reference -/
def LnM (T : Nat → Int32) (n t : Nat) (q : Nat) (M M' : am_Mem) (v : Int32) (r : Int32 × Nat × Ld) : Prop := RlM M M' t ∧ ((r.1 = 0 ∧ v = 1 ∧ am_I M' 110 9 = 0 ∧ am_I M' 110 11 = nI (t + 1) ∧ MAt T n r.2.1 M' ∧ am_J M' 112 t = wWm T n q ∧ LdM M' t r.2.2) ∨ (¬ r.1 = 0 ∧ v = 0 ∧ FtM M' r.1))
/-- the end of a line, the reference -/
theorem le_m {N p : Nat} {M : am_Mem} (hN : 100000 ≤ N) (hn : n ≤ 600) (hB : ∀ x, x < n → isB (T x)) (ht : t < 6) (h : MAt T n p M) (e9 : am_I M 110 9 = 0) (e11 : am_I M 110 11 = nI t) : ∃ v M', fn12_lineHere_b114 N 110 M = some (v, M') ∧ Fs [110] M M' ∧ (∀ y, ¬ y = 4 → ¬ y = 5 → ¬ y = 6 → ¬ y = 7 → ¬ y = 9 → ¬ y = 10 → ¬ y = 11 → am_I M' 110 y = am_I M 110 y) ∧ ((tkK T n p = 5 ∧ v = 1 ∧ am_I M' 110 9 = 0 ∧ am_I M' 110 11 = nI (t + 1) ∧ MAt T n (tkE T n p) M') ∨ (¬ tkK T n p = 5 ∧ v = 0 ∧ FtM M' (ft T n p 1))) := by
  have s := h.1
  unfold fn12_lineHere_b114 fn12_lineHere_b128 fn12_lineHere_b135
  rw [nk_k, sk110 s, nk_dd, ma_k h]
  by_cases k5 : tkK T n p = 5
  · rw [if_pos ((km_all T n p).2.2.2.2.2.mpr k5), nk_dd, mu_1 s e9, nk_bd, if_neg z_1, nk_k, sk110 s, nk_dd, e11, nI_1]
    have f1 : Fs [110] M (am_wI M 110 11 (nI (t + 1))) := fs_wI _ _ _ List.mem_cons_self
    have h1 : MAt T n p (am_wI M 110 11 (nI (t + 1))) := by
      obtain ⟨s, tp, hp, c1, c2, c3, c4, c5, c6⟩ := h
      refine ⟨fs_shp f1 s, fun x hx => by rw [fs_I f1 (by decide)]; exact tp x hx, hp, ?_, ?_, ?_, ?_, ?_, ?_⟩
      · rw [rI_ix _ _ _ (by decide)]; exact c1
      · rw [rI_ix _ _ _ (by decide)]; exact c2
      · rw [rI_ix _ _ _ (by decide)]; exact c3
      · rw [rI_ix _ _ _ (by decide)]; exact c4
      · rw [qJ_wI]; exact c5
      · rw [rI_ix _ _ _ (by decide)]; exact c6
    obtain ⟨M2, a1, a2, a3, a4⟩ := ma_nx hN hn hB h1
    rw [a1, nk_bd]
    refine ⟨1, M2, rfl, fs_trans f1 a2, fun y a b c d e f g => by rw [a3 y a b c d, rI_ix _ _ _ g], Or.inl ⟨k5, rfl, ?_, ?_, a4⟩⟩
    · rw [a3 9 (by decide) (by decide) (by decide) (by decide), rI_ix _ _ _ (by decide)]; exact e9
    · rw [a3 11 (by decide) (by decide) (by decide) (by decide), rI_eq]
  · rw [if_neg (fun z => k5 ((km_all T n p).2.2.2.2.2.mp z)), nk_dd, mu_0 h e9 (by decide), nk_bd, if_pos rfl]
    exact ⟨0, _, rfl, fs_trans (fs_wI _ _ _ (by decide)) (fs_wI _ _ _ (by decide)), fun y _ _ _ _ e f _ => by rw [rI_ix _ _ _ f, rI_ix _ _ _ e], Or.inr ⟨k5, rfl, mu_ft 1⟩⟩
end
