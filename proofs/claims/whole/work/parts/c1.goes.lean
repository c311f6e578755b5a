/-- sizes, starts, width and height of a net, as natural numbers -/
def nSz (a b : Nat → Nat) (W n w : Nat) : Nat := (fI a b W n w).natAbs
def nSt (a b : Nat → Nat) (W n w : Nat) : Nat := (fS a b W n w).toNat
def nH (a b : Nat → Nat) (W n : Nat) : Nat := (fL a b W n 0).toNat
def nW (a b : Nat → Nat) (W n : Nat) : Nat := (fD a b W n / (fG a b W n W : Int)).toNat
section
variable {a b : Nat → Nat} {W n : Nat}
theorem fl_nn (hn0 : 0 < n) (d0 : 0 < fD a b W n) (p : Nat) : 0 ≤ fL a b W n p := Int.ediv_nonneg (fv_nn hn0 d0 p) (by omega)
theorem fi_eq (hn0 : 0 < n) (d0 : 0 < fD a b W n) (w : Nat) (hw : w < W) : fI a b W n w = fL a b W n (a w) - fL a b W n (b w) := by
  unfold fI fL fC
  have := fg_v (a := a) (b := b) (W := W) (n := n) d0 (b w)
  rw [Int.sub_ediv_of_dvd _ this]
theorem sz_st (hn0 : 0 < n) (d0 : 0 < fD a b W n) (w : Nat) (hw : w < W) : nSz a b W n w ≤ nSt a b W n w := by
  unfold nSz nSt
  rw [fi_eq hn0 d0 w hw]
  have h1 := fl_nn (a := a) (b := b) (W := W) hn0 d0 (a w)
  have h2 := fl_nn (a := a) (b := b) (W := W) hn0 d0 (b w)
  unfold fS
  by_cases q : fL a b W n (a w) < fL a b W n (b w)
  · rw [if_pos q]; omega
  · rw [if_neg q]; omega
theorem fs_nn (hn0 : 0 < n) (d0 : 0 < fD a b W n) (w : Nat) : 0 ≤ fS a b W n w := by
  unfold fS
  by_cases q : fL a b W n (a w) < fL a b W n (b w)
  · rw [if_pos q]; exact fl_nn hn0 d0 _
  · rw [if_neg q]; exact fl_nn hn0 d0 _
theorem fs_le (hW : W ≤ 14) (d0 : 0 < fD a b W n) (g0 : ¬ fG a b W n W = 0) (w : Nat) : (fS a b W n w).natAbs ≤ 1000000000 := by
  unfold fS
  by_cases q : fL a b W n (a w) < fL a b W n (b w)
  · rw [if_pos q]; exact fl_le hW d0 g0 _
  · rw [if_neg q]; exact fl_le hW d0 g0 _
theorem fi_le (hW : W ≤ 14) (g0 : ¬ fG a b W n W = 0) (w : Nat) (hw : w < W) : (fI a b W n w).natAbs ≤ 2000000000 := by
  have h1 := fc_le (a := a) (b := b) (n := n) hW w
  have h2 := abs_div (d := (fG a b W n W : Int)) (by omega) (fg_dvdI (a := a) (b := b) (W := W) (n := n) hw)
  unfold fI
  omega
/-- what the reference holds of a net while it is laid -/
def NtS (M : am_Mem) (r : Nat) (a b : Nat → Nat) (W n : Nat) : Prop := WrM M r a b W ∧ FlM M r a b W n
theorem nts_fs {Q : List Nat} {M M' : am_Mem} {r : Nat} (f : Fs Q M M') (h1 : 123 ∉ Q) (h2 : 124 ∉ Q) (h3 : 128 ∉ Q) (h4 : 129 ∉ Q) (h : NtS M r a b W n) : NtS M' r a b W n := by
  obtain ⟨⟨w1, w2⟩, f1, f2⟩ := h
  refine ⟨⟨by rw [fs_I f h1]; exact w1, fun w hw => by rw [fs_I f h2]; exact w2 w hw⟩, fun q hq => by rw [fs_J f h3]; exact f1 q hq, fun x hx => by rw [fs_J f h4]; exact f2 x hx⟩
theorem sz_m {M : am_Mem} {r w : Nat} (hr : r < 6) (hW : W ≤ 14) (g0 : ¬ fG a b W n W = 0) (s : Shp M) (h : NtS M r a b W n) (hw : w < W) : fn12_sizeOf M 110 (nI r) (nI w) = some (nI (nSz a b W n w), M) := by
  have il := fi_le (a := a) (b := b) (n := n) hW g0 w hw
  unfold fn12_sizeOf fn12_sizeOf_b0 fn12_sizeOf_b42
  rw [nk_k, sk110 s, nk_dd, sr110_31 s, nk_k, sk129 s, nk_dd, sl129 s, i14r, nk_in (show 14 * r + w < 84 by omega) (by decide), nk_ck, nI_clamp (by omega), h.2.2 w hw, nk_ck]
  have cmp : (0 ≤ lg_cmp (lI (fI a b W n w)) 0) ↔ 0 ≤ fI a b W n w := by
    rw [lg_cmp_ge, Int64.le_iff_toInt_le, li_toInt (by omega)]
    exact Iff.rfl
  unfold nSz
  by_cases q : 0 ≤ fI a b W n w
  · rw [if_pos (cmp.mpr q), li_ii, ii_nat, show ((fI a b W n w).natAbs : Int) = fI a b W n w by omega]
  · rw [if_neg (fun z => q (cmp.mp z)), nk_ck, show -lI (fI a b W n w) = lI (-(fI a b W n w)) from (Int64.ofInt_neg _).symm, li_ii, ii_nat, show ((fI a b W n w).natAbs : Int) = -(fI a b W n w) by omega]
theorem tp_m {M : am_Mem} {r w : Nat} (hr : r < 6) (hn : n ≤ 8) (hW : W ≤ 14) (ha : ∀ w, w < W → a w ≤ n ∧ b w ≤ n ∧ ¬ a w = b w) (d0 : 0 < fD a b W n) (g0 : ¬ fG a b W n W = 0) (s : Shp M) (h : NtS M r a b W n) (hw : w < W) : fn12_topOf M 110 (nI r) (nI w) = some (lI (fS a b W n w), M) := by
  obtain ⟨an, bn, _⟩ := ha w hw
  obtain ⟨wa, wb⟩ := h.1.2 w hw
  have la := fl_le (a := a) (b := b) hW d0 g0 (a w)
  have lb := fl_le (a := a) (b := b) hW d0 g0 (b w)
  unfold fn12_topOf fn12_topOf_b0 fn12_topOf_b24 fn12_topOf_b51 fn12_topOf_b64
  rw [nk_k, sk110 s, nk_dd, sr110_26 s, nk_k, sk124 s, nk_dd, sl124 s, i28, nk_in (show 28 * r + 2 * w < 168 by omega) (by decide), nk_ck, sr110_30 s, nk_k, sk128 s, nk_dd, sl128 s, nI_clamp (show 28 * r + 2 * w < 2147483648 by omega), wa, i9r, nk_in (show 9 * r + a w < 54 by omega) (by decide), nk_ck, nI_clamp (show 9 * r + a w < 2147483648 by omega), h.2.1 _ an, nk_dd, nk_dd, nI_1, nk_in (show 28 * r + 2 * w + 1 < 168 by omega) (by decide), nk_ck, nk_dd, nI_clamp (show 28 * r + 2 * w + 1 < 2147483648 by omega), wb, i9r, nk_in (show 9 * r + b w < 54 by omega) (by decide), nk_ck, nI_clamp (show 9 * r + b w < 2147483648 by omega), h.2.1 _ bn]
  have cmp : (lg_cmp (lI (fL a b W n (a w))) (lI (fL a b W n (b w))) ≤ 0) ↔ fL a b W n (a w) ≤ fL a b W n (b w) := by
    rw [lg_cmp_le, Int64.le_iff_toInt_le, li_toInt (by omega), li_toInt (by omega)]
  unfold fS
  by_cases q : fL a b W n (a w) ≤ fL a b W n (b w)
  · rw [if_pos (cmp.mpr q)]
    by_cases q2 : fL a b W n (a w) < fL a b W n (b w)
    · rw [if_pos q2]
    · rw [if_neg q2, show fL a b W n (a w) = fL a b W n (b w) by omega]
  · rw [if_neg (fun z => q (cmp.mp z)), if_neg (by omega)]
end
def goW : List Nat := [110, 117, 126, 130, 131, 132, 134]
/-- what the search leaves as it was -/
def GoB (M M' : am_Mem) (r k : Nat) : Prop := Fs goW M M' ∧ (∀ y, ¬ y = 39 → am_I M' 110 y = am_I M 110 y) ∧ am_J M' 110 = am_J M 110 ∧ (∀ u, ¬ u = r → am_I M' 126 u = am_I M 126 u) ∧ (∀ z, z < 124 * r → am_I M' 117 z = am_I M 117 z) ∧ am_I M' 117 (124 * r + 3) = am_I M 117 (124 * r + 3) ∧ (∀ j, j < k → am_I M' 117 (124 * r + (4 + j)) = am_I M 117 (124 * r + (4 + j)) ∧ am_I M' 117 (124 * r + (44 + j)) = am_I M 117 (124 * r + (44 + j)) ∧ am_I M' 117 (124 * r + (84 + j)) = am_I M 117 (124 * r + (84 + j))) ∧ (∀ u, u < k + 1 → am_I M' 130 u = am_I M 130 u) ∧ ∀ j, j < 42 * (k + 1) → am_I M' 131 j = am_I M 131 j ∧ am_I M' 132 j = am_I M 132 j
theorem gob_refl (M : am_Mem) (r k : Nat) : GoB M M r k := ⟨fs_refl _ _, fun _ _ => rfl, rfl, fun _ _ => rfl, fun _ _ => rfl, rfl, fun _ _ => ⟨rfl, rfl, rfl⟩, fun _ _ => rfl, fun _ _ => ⟨rfl, rfl⟩⟩
theorem gob_trans {M M1 M2 : am_Mem} {r k k' : Nat} (h : GoB M M1 r k) (g : GoB M1 M2 r k') (hk : k ≤ k') : GoB M M2 r k := by
  obtain ⟨a1, a2, a3, a4, a5, a6, a7, a8, a9⟩ := h
  obtain ⟨b1, b2, b3, b4, b5, b6, b7, b8, b9⟩ := g
  refine ⟨fs_trans a1 b1, fun y hy => (b2 y hy).trans (a2 y hy), b3.trans a3, fun u hu => (b4 u hu).trans (a4 u hu), fun z hz => (b5 z hz).trans (a5 z hz), b6.trans a6, fun j hj => ?_, fun u hu => (b8 u (by omega)).trans (a8 u hu), fun j hj => ?_⟩
  · obtain ⟨c1, c2, c3⟩ := a7 j hj
    obtain ⟨e1, e2, e3⟩ := b7 j (by omega)
    exact ⟨e1.trans c1, e2.trans c2, e3.trans c3⟩
  · obtain ⟨c1, c2⟩ := a9 j hj
    obtain ⟨e1, e2⟩ := b9 j (by omega)
    exact ⟨e1.trans c1, e2.trans c2⟩
theorem gob_34 (M : am_Mem) (r k w : Nat) (v : Int32) : GoB M (am_wI M 134 w v) r k :=
  ⟨fs_wI _ _ _ (by decide), fun y _ => by rw [rI_ne _ _ _ (by decide)], by rw [qJ_wI], fun u _ => by rw [rI_ne _ _ _ (by decide)], fun z _ => by rw [rI_ne _ _ _ (by decide)], by rw [rI_ne _ _ _ (by decide)], fun j _ => ⟨by rw [rI_ne _ _ _ (by decide)], by rw [rI_ne _ _ _ (by decide)], by rw [rI_ne _ _ _ (by decide)]⟩, fun u _ => by rw [rI_ne _ _ _ (by decide)], fun j _ => ⟨by rw [rI_ne _ _ _ (by decide)], by rw [rI_ne _ _ _ (by decide)]⟩⟩
theorem gob_26 (M : am_Mem) (r k : Nat) (v : Int32) : GoB M (am_wI M 126 r v) r k :=
  ⟨fs_wI _ _ _ (by decide), fun y _ => by rw [rI_ne _ _ _ (by decide)], by rw [qJ_wI], fun u hu => by rw [rI_ix _ _ _ hu], fun z _ => by rw [rI_ne _ _ _ (by decide)], by rw [rI_ne _ _ _ (by decide)], fun j _ => ⟨by rw [rI_ne _ _ _ (by decide)], by rw [rI_ne _ _ _ (by decide)], by rw [rI_ne _ _ _ (by decide)]⟩, fun u _ => by rw [rI_ne _ _ _ (by decide)], fun j _ => ⟨by rw [rI_ne _ _ _ (by decide)], by rw [rI_ne _ _ _ (by decide)]⟩⟩
theorem gob_39 (M : am_Mem) (r k : Nat) (v : Int32) : GoB M (am_wI M 110 39 v) r k :=
  ⟨fs_wI _ _ _ (by decide), fun y hy => by rw [rI_ix _ _ _ hy], by rw [qJ_wI], fun u _ => by rw [rI_ne _ _ _ (by decide)], fun z _ => by rw [rI_ne _ _ _ (by decide)], by rw [rI_ne _ _ _ (by decide)], fun j _ => ⟨by rw [rI_ne _ _ _ (by decide)], by rw [rI_ne _ _ _ (by decide)], by rw [rI_ne _ _ _ (by decide)]⟩, fun u _ => by rw [rI_ne _ _ _ (by decide)], fun j _ => ⟨by rw [rI_ne _ _ _ (by decide)], by rw [rI_ne _ _ _ (by decide)]⟩⟩
theorem gob_lv {M M' : am_Mem} {r k : Nat} (h : LvB M M' (k + 1)) : GoB M M' r k :=
  ⟨fs_mono h.1 (by decide), fun y _ => by rw [fs_I h.1 (by decide)], fs_J h.1 (by decide), fun u _ => by rw [fs_I h.1 (by decide)], fun z _ => by rw [fs_I h.1 (by decide)], by rw [fs_I h.1 (by decide)], fun j _ => ⟨by rw [fs_I h.1 (by decide)], by rw [fs_I h.1 (by decide)], by rw [fs_I h.1 (by decide)]⟩, h.2.1, h.2.2⟩
theorem gob_sq {M M' : am_Mem} {r k : Nat} {f : Nat → Sq} (h : RwB M M' r) (q : SqM M r k f) (q' : SqM M' r (k + 1) f) : GoB M M' r k := by
  refine ⟨fs_mono h.1 (by decide), fun y _ => by rw [fs_I h.1 (by decide)], fs_J h.1 (by decide), fun u _ => by rw [fs_I h.1 (by decide)], h.2, by rw [q.1, q'.1], fun j hj => ?_, fun u _ => by rw [fs_I h.1 (by decide)], fun j _ => ⟨by rw [fs_I h.1 (by decide)], by rw [fs_I h.1 (by decide)]⟩⟩
  obtain ⟨a1, a2, a3⟩ := q.2 j hj
  obtain ⟨b1, b2, b3⟩ := q'.2 j (by omega)
  rw [a1, a2, a3, b1, b2, b3]
  exact ⟨rfl, rfl, rfl⟩
/-- the squares of wires laid -/
def fN (sz : Nat → Nat) (Wd : Nat) (p : List Nat) (j : Nat) : Sq := sqI ((sqN sz Wd p).getD j (0, 0, 0))
/-- where the reference's search stands -/
def NsM (M : am_Mem) (r m K Wd : Nat) (sz : Nat → Nat) (p : List Nat) (c : Nat) : Prop := am_I M 126 r = nI c ∧ am_I M 110 39 = 0 ∧ am_I M 110 38 = nI K ∧ am_I M 110 35 = nI Wd ∧ (∀ w, w < m → am_I M 134 w = if w ∈ p then 1 else 0) ∧ OuM M p.length (opN sz Wd p) ∧ SqM M r p.length (fN sz Wd p)
