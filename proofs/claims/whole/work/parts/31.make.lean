theorem rK_newE (M : am_Mem) (k len : Nat) {a : Nat} (h : a = am_n M + 1) : am_K (am_new M k len) a = k := by rw [h, rK_new_eq]
theorem rL_newE (M : am_Mem) (k len : Nat) {a : Nat} (h : a = am_n M + 1) : am_L (am_new M k len) a = len := by rw [h, rL_new_eq]
theorem rI_newE (M : am_Mem) (k len : Nat) {a : Nat} (h : a = am_n M + 1) : am_I (am_new M k len) a = fun _ => 0 := by rw [h, rI_new_eq]
theorem rR_newE (M : am_Mem) (k len : Nat) {a : Nat} (h : a = am_n M + 1) : am_R (am_new M k len) a = fun _ => 0 := by rw [h, rR_new_eq]
/-- a new array at a place -/
def nwA (M : am_Mem) (r j n : Nat) : am_Mem := am_wR (am_new M 14 n) r j (am_n M + 1)
section
variable {M : am_Mem} {r j n : Nat}
theorem nwA_n : am_n (nwA M r j n) = am_n M + 1 := rfl
theorem nwA_K {a : Nat} (h : a ≤ am_n M) : am_K (nwA M r j n) a = am_K M a := by
  unfold nwA
  rw [rK_wR, rK_new _ _ _ (by omega)]
theorem nwA_L {a : Nat} (h : a ≤ am_n M) : am_L (nwA M r j n) a = am_L M a := by
  unfold nwA
  rw [rL_wR, rL_new _ _ _ (by omega)]
theorem nwA_I {a : Nat} (h : a ≤ am_n M) : am_I (nwA M r j n) a = am_I M a := by
  unfold nwA
  rw [rI_wR, rI_new _ _ _ (by omega)]
theorem nwA_J {a : Nat} (h : a ≤ am_n M) : am_J (nwA M r j n) a = am_J M a := by
  unfold nwA
  rw [rJ_wR, rJ_new _ _ _ (by omega)]
theorem nwA_Rn {a : Nat} (h : a ≤ am_n M) (hr : ¬ a = r) : am_R (nwA M r j n) a = am_R M a := by
  unfold nwA
  rw [rR_ne _ _ _ hr, rR_new _ _ _ (by omega)]
theorem nwA_Ri {i : Nat} (h : r ≤ am_n M) (hi : ¬ i = j) : am_R (nwA M r j n) r i = am_R M r i := by
  unfold nwA
  rw [rR_ix _ _ _ hi, rR_new _ _ _ (by omega)]
theorem nwA_R : am_R (nwA M r j n) r j = am_n M + 1 := by
  unfold nwA
  rw [rR_eq]
theorem nwA_Kn : am_K (nwA M r j n) (am_n M + 1) = 14 := by
  unfold nwA
  rw [rK_wR, rK_new_eq]
theorem nwA_Ln : am_L (nwA M r j n) (am_n M + 1) = n := by
  unfold nwA
  rw [rL_wR, rL_new_eq]
theorem nwA_fr {M0 : am_Mem} (h : am_Fr [] M0 M) (hr : am_n M0 < r) : am_Fr [] M0 (nwA M r j n) := by
  refine ⟨Nat.le_succ_of_le h.1, fun a ha => ?_⟩
  have h1 := h.1
  obtain ⟨h2, h3, h4, h5⟩ := h.2 a ha
  exact ⟨(nwA_K (by omega)).trans h2, (nwA_L (by omega)).trans h3, (nwA_Rn (by omega) (by omega)).trans h4, fun hw => ⟨(nwA_I (by omega)).trans (h5 hw).1, (nwA_J (by omega)).trans (h5 hw).2⟩⟩
end
section
variable {N : Nat} {M : am_Mem} {r d : Nat} {x1 x3 : Int32} {r4 : Nat} {n : Nat} {w h : Int32}
theorem ti_b0 (k : am_K M r = 10) : fn10_init_b0 N r x1 d x3 r4 M = fn10_init_b9 N r x1 d x3 r4 (am_wI M r 10 (-1)) := by
  unfold fn10_init_b0; rw [nk_k, k, nk_dd]
theorem ti_b9 (k : am_K M r = 10) : fn10_init_b9 N r x1 d x3 r4 M = fn10_init_b14 N r d x3 r4 (am_wI M r 0 x1) := by
  unfold fn10_init_b9; rw [nk_k, k, nk_dd]
theorem ti_b14 (k : am_K M r = 10) : fn10_init_b14 N r d x3 r4 M = fn10_init_b19 N r d r4 (am_wI M r 2 x3) := by
  unfold fn10_init_b14; rw [nk_k, k, nk_dd]
theorem ti_b19 (k : am_K M r = 10) : fn10_init_b19 N r d r4 M = fn10_init_b25 N r d (am_wR M r 3 r4) := by
  unfold fn10_init_b19; rw [nk_k, k, nk_dd]
theorem ti_b25 (k : am_K M r = 10) (hd : ¬ d = 0) : fn10_init_b25 N r d M = fn10_init_b38 N r d (am_wI M r 1 0) := by
  unfold fn10_init_b25 fn10_init_b35; rw [if_neg hd, nk_01, nk_ck, nk_k, k, nk_dd]
theorem ti_b25' (k : am_K M r = 10) : fn10_init_b25 N r 0 M = fn10_init_b38 N r 0 (am_wI M r 1 1) := by
  unfold fn10_init_b25 fn10_init_b35; rw [if_pos rfl, nk_11, nk_ck, nk_k, k, nk_dd]
theorem ti_b38 (k : am_K M r = 10) (hd : ¬ d = 0) (kd : am_K M d = 0) (i : am_I M d 3 = nI n) : fn10_init_b38 N r d M = fn10_init_b54 N r d (am_wI M r 4 (nI n)) := by
  unfold fn10_init_b38 fn10_init_b51; rw [if_neg hd, nk_k, kd, nk_dd, nk_k, k, nk_dd, i]
theorem ti_b38' (k : am_K M r = 10) : fn10_init_b38 N r 0 M = fn10_init_b54 N r 0 (am_wI M r 4 (nI 0)) := by
  unfold fn10_init_b38 fn10_init_b51; rw [if_pos rfl, nk_k, k, nk_dd]; rfl
theorem ti_b54 (k : am_K M r = 10) (hd : ¬ d = 0) (kd : am_K M d = 0) (i : am_I M d 4 = w) : fn10_init_b54 N r d M = fn10_init_b70 N r d (am_wI M r 5 w) := by
  unfold fn10_init_b54 fn10_init_b67; rw [if_neg hd, nk_k, kd, nk_dd, nk_k, k, nk_dd, i]
theorem ti_b54' (k : am_K M r = 10) : fn10_init_b54 N r 0 M = fn10_init_b70 N r 0 (am_wI M r 5 0) := by
  unfold fn10_init_b54 fn10_init_b67; rw [if_pos rfl, nk_k, k, nk_dd]
theorem ti_b70 (k : am_K M r = 10) (hd : ¬ d = 0) (kd : am_K M d = 0) (i : am_I M d 5 = h) : fn10_init_b70 N r d M = fn10_init_b86 N r d (am_wI M r 6 h) := by
  unfold fn10_init_b70 fn10_init_b83; rw [if_neg hd, nk_k, kd, nk_dd, nk_k, k, nk_dd, i]
theorem ti_b70' (k : am_K M r = 10) : fn10_init_b70 N r 0 M = fn10_init_b86 N r 0 (am_wI M r 6 0) := by
  unfold fn10_init_b70 fn10_init_b83; rw [if_pos rfl, nk_k, k, nk_dd]
theorem ti_b86 (k : am_K M r = 10) (i : am_I M r 4 = nI n) (hn : n ≤ 40) (hr : r ≤ am_n M) : fn10_init_b86 N r d M = fn10_init_b96 N r d (am_wR (am_new M 14 n) r 7 (am_n M + 1)) := by
  have k2 : am_K (am_new M 14 n) r = 10 := by rw [rK_new _ _ _ (by omega)]; exact k
  unfold fn10_init_b86; rw [nk_k, k, nk_dd, i, nk_cnt hn (by decide), nk_ck, nI_clamp (by omega), nk_k, k2, nk_dd]
theorem ti_b96 (k : am_K M r = 10) (i : am_I M r 4 = nI n) (hn : n ≤ 40) (hr : r ≤ am_n M) : fn10_init_b96 N r d M = fn10_init_b106 N r d (am_wR (am_new M 14 n) r 8 (am_n M + 1)) := by
  have k2 : am_K (am_new M 14 n) r = 10 := by rw [rK_new _ _ _ (by omega)]; exact k
  unfold fn10_init_b96; rw [nk_k, k, nk_dd, i, nk_cnt hn (by decide), nk_ck, nI_clamp (by omega), nk_k, k2, nk_dd]
theorem ti_b106 (k : am_K M r = 10) (i : am_I M r 4 = nI n) (hn : n ≤ 40) (hr : r ≤ am_n M) : fn10_init_b106 N r d M = fn10_init_b119 N N r d 0 (am_wR (am_new M 14 n) r 9 (am_n M + 1)) := by
  have k2 : am_K (am_new M 14 n) r = 10 := by rw [rK_new _ _ _ (by omega)]; exact k
  unfold fn10_init_b106 fn10_init_b116; rw [nk_k, k, nk_dd, i, nk_cnt hn (by decide), nk_ck, nI_clamp (by omega), nk_k, k2, nk_dd]
end
/-- a new tiling's head -/
def HdQ (M0 M : am_Mem) (x1 x3 fl : Int32) (r4 n : Nat) (w h : Int32) : Prop := am_n M = am_n M0 + 4 ∧ am_Fr [] M0 M ∧ am_K M (am_n M0 + 1) = 10 ∧
  (am_K M (am_n M0 + 2) = 14 ∧ am_L M (am_n M0 + 2) = n) ∧ (am_K M (am_n M0 + 3) = 14 ∧ am_L M (am_n M0 + 3) = n) ∧ (am_K M (am_n M0 + 4) = 14 ∧ am_L M (am_n M0 + 4) = n) ∧
  (am_R M (am_n M0 + 1) 7 = am_n M0 + 2 ∧ am_R M (am_n M0 + 1) 8 = am_n M0 + 3 ∧ am_R M (am_n M0 + 1) 9 = am_n M0 + 4 ∧ am_R M (am_n M0 + 1) 3 = r4) ∧
  (am_I M (am_n M0 + 1) 0 = x1 ∧ am_I M (am_n M0 + 1) 1 = fl ∧ am_I M (am_n M0 + 1) 2 = x3 ∧ am_I M (am_n M0 + 1) 4 = nI n ∧ am_I M (am_n M0 + 1) 5 = w ∧ am_I M (am_n M0 + 1) 6 = h ∧ am_I M (am_n M0 + 1) 10 = -1)
def tiI (M0 : am_Mem) (x1 x3 fl : Int32) (r4 n : Nat) (w h : Int32) : am_Mem := am_wI (am_wI (am_wI (am_wI (am_wR (am_wI (am_wI (am_wI (am_new M0 10 0) (am_n M0 + 1) 10 (-1)) (am_n M0 + 1) 0 x1) (am_n M0 + 1) 2 x3) (am_n M0 + 1) 3 r4) (am_n M0 + 1) 1 fl) (am_n M0 + 1) 4 (nI n)) (am_n M0 + 1) 5 w) (am_n M0 + 1) 6 h
theorem tiI_fr {M0 : am_Mem} {x1 x3 fl : Int32} {r4 n : Nat} {w h : Int32} : am_Fr [] M0 (tiI M0 x1 x3 fl r4 n w h) := by
  refine ⟨Nat.le_succ _, fun a ha => ?_⟩
  unfold tiI
  have h1 : ¬ a = am_n M0 + 1 := by omega
  refine ⟨?_, ?_, ?_, fun _ => ⟨?_, ?_⟩⟩
  · simp only [qK_wI, qK_wR, rK_new M0 10 0 h1]
  · simp only [qL_wI, qL_wR, rL_new M0 10 0 h1]
  · simp only [qR_wI, rR_ne _ _ _ h1, rR_new M0 10 0 h1]
  · simp only [qI_wR, rI_ne _ _ _ h1, rI_new M0 10 0 h1]
  · simp only [qJ_wI, qJ_wR, rJ_new M0 10 0 h1]
theorem tiI_I {M0 : am_Mem} {x1 x3 fl : Int32} {r4 n : Nat} {w h : Int32} : am_I (tiI M0 x1 x3 fl r4 n w h) (am_n M0 + 1) 0 = x1 ∧ am_I (tiI M0 x1 x3 fl r4 n w h) (am_n M0 + 1) 1 = fl ∧ am_I (tiI M0 x1 x3 fl r4 n w h) (am_n M0 + 1) 2 = x3 ∧ am_I (tiI M0 x1 x3 fl r4 n w h) (am_n M0 + 1) 4 = nI n ∧ am_I (tiI M0 x1 x3 fl r4 n w h) (am_n M0 + 1) 5 = w ∧ am_I (tiI M0 x1 x3 fl r4 n w h) (am_n M0 + 1) 6 = h ∧ am_I (tiI M0 x1 x3 fl r4 n w h) (am_n M0 + 1) 10 = -1 := by
  unfold tiI
  refine ⟨?_, ?_, ?_, ?_, ?_, ?_, ?_⟩ <;> simp (disch := decide) only [qI_wR, rI_eq, rI_ix]
theorem tiI_R {M0 : am_Mem} {x1 x3 fl : Int32} {r4 n : Nat} {w h : Int32} : am_R (tiI M0 x1 x3 fl r4 n w h) (am_n M0 + 1) 3 = r4 := by
  unfold tiI
  simp only [qR_wI, rR_eq]
theorem tiI_n {M0 : am_Mem} {x1 x3 fl : Int32} {r4 n : Nat} {w h : Int32} : am_n (tiI M0 x1 x3 fl r4 n w h) = am_n M0 + 1 := rfl
theorem tiI_K {M0 : am_Mem} {x1 x3 fl : Int32} {r4 n : Nat} {w h : Int32} : am_K (tiI M0 x1 x3 fl r4 n w h) (am_n M0 + 1) = 10 := by
  unfold tiI
  simp only [qK_wI, qK_wR, rK_new_eq]
theorem ti_arr {N : Nat} {M0 : am_Mem} {d n : Nat} {x1 x3 fl : Int32} {r4 : Nat} {w h : Int32} (hn : n ≤ 40) : ∃ MH, fn10_init_b86 N (am_n M0 + 1) d (tiI M0 x1 x3 fl r4 n w h) = fn10_init_b119 N N (am_n M0 + 1) d 0 MH ∧ HdQ M0 MH x1 x3 fl r4 n w h := by
  have f1 := tiI_fr (M0 := M0) (x1 := x1) (x3 := x3) (fl := fl) (r4 := r4) (n := n) (w := w) (h := h)
  obtain ⟨i0, i1, i2, i4, i5, i6, i10⟩ := tiI_I (M0 := M0) (x1 := x1) (x3 := x3) (fl := fl) (r4 := r4) (n := n) (w := w) (h := h)
  have r3 := tiI_R (M0 := M0) (x1 := x1) (x3 := x3) (fl := fl) (r4 := r4) (n := n) (w := w) (h := h)
  have n1 := tiI_n (M0 := M0) (x1 := x1) (x3 := x3) (fl := fl) (r4 := r4) (n := n) (w := w) (h := h)
  have k1 := tiI_K (M0 := M0) (x1 := x1) (x3 := x3) (fl := fl) (r4 := r4) (n := n) (w := w) (h := h)
  revert f1 i0 i1 i2 i4 i5 i6 i10 r3 n1 k1
  generalize tiI M0 x1 x3 fl r4 n w h = M1
  intro f1 i0 i1 i2 i4 i5 i6 i10 r3 n1 k1
  rw [ti_b86 k1 i4 hn (by omega)]
  rw [show am_wR (am_new M1 14 n) (am_n M0 + 1) 7 (am_n M1 + 1) = nwA M1 (am_n M0 + 1) 7 n from rfl]
  have f2 := nwA_fr (j := 7) (n := n) f1 (show am_n M0 < am_n M0 + 1 by omega)
  have n2 : am_n (nwA M1 (am_n M0 + 1) 7 n) = am_n M0 + 2 := by rw [nwA_n, n1]
  have k2 : am_K (nwA M1 (am_n M0 + 1) 7 n) (am_n M0 + 1) = 10 := by rw [nwA_K (by omega)]; exact k1
  have I2 : am_I (nwA M1 (am_n M0 + 1) 7 n) (am_n M0 + 1) = am_I M1 (am_n M0 + 1) := nwA_I (by omega)
  have r27 : am_R (nwA M1 (am_n M0 + 1) 7 n) (am_n M0 + 1) 7 = am_n M0 + 2 := by rw [nwA_R, n1]
  have r23 : am_R (nwA M1 (am_n M0 + 1) 7 n) (am_n M0 + 1) 3 = r4 := by rw [nwA_Ri (by omega) (by decide)]; exact r3
  have a2 : am_K (nwA M1 (am_n M0 + 1) 7 n) (am_n M0 + 2) = 14 := by have := nwA_Kn (M := M1) (r := am_n M0 + 1) (j := 7) (n := n); rw [n1] at this; exact this
  have b2 : am_L (nwA M1 (am_n M0 + 1) 7 n) (am_n M0 + 2) = n := by have := nwA_Ln (M := M1) (r := am_n M0 + 1) (j := 7) (n := n); rw [n1] at this; exact this
  revert f2 n2 k2 I2 r27 r23 a2 b2
  generalize nwA M1 (am_n M0 + 1) 7 n = M2
  intro f2 n2 k2 I2 r27 r23 a2 b2
  rw [ti_b96 k2 (by rw [I2]; exact i4) hn (by omega)]
  rw [show am_wR (am_new M2 14 n) (am_n M0 + 1) 8 (am_n M2 + 1) = nwA M2 (am_n M0 + 1) 8 n from rfl]
  have f3 := nwA_fr (j := 8) (n := n) f2 (show am_n M0 < am_n M0 + 1 by omega)
  have n3 : am_n (nwA M2 (am_n M0 + 1) 8 n) = am_n M0 + 3 := by rw [nwA_n, n2]
  have k3 : am_K (nwA M2 (am_n M0 + 1) 8 n) (am_n M0 + 1) = 10 := by rw [nwA_K (by omega)]; exact k2
  have I3 : am_I (nwA M2 (am_n M0 + 1) 8 n) (am_n M0 + 1) = am_I M2 (am_n M0 + 1) := nwA_I (by omega)
  have r38 : am_R (nwA M2 (am_n M0 + 1) 8 n) (am_n M0 + 1) 8 = am_n M0 + 3 := by rw [nwA_R, n2]
  have r37 : am_R (nwA M2 (am_n M0 + 1) 8 n) (am_n M0 + 1) 7 = am_n M0 + 2 := by rw [nwA_Ri (by omega) (by decide)]; exact r27
  have r33 : am_R (nwA M2 (am_n M0 + 1) 8 n) (am_n M0 + 1) 3 = r4 := by rw [nwA_Ri (by omega) (by decide)]; exact r23
  have a3 : am_K (nwA M2 (am_n M0 + 1) 8 n) (am_n M0 + 3) = 14 := by have := nwA_Kn (M := M2) (r := am_n M0 + 1) (j := 8) (n := n); rw [n2] at this; exact this
  have b3 : am_L (nwA M2 (am_n M0 + 1) 8 n) (am_n M0 + 3) = n := by have := nwA_Ln (M := M2) (r := am_n M0 + 1) (j := 8) (n := n); rw [n2] at this; exact this
  have a32 : am_K (nwA M2 (am_n M0 + 1) 8 n) (am_n M0 + 2) = 14 := by rw [nwA_K (by omega)]; exact a2
  have b32 : am_L (nwA M2 (am_n M0 + 1) 8 n) (am_n M0 + 2) = n := by rw [nwA_L (by omega)]; exact b2
  revert f3 n3 k3 I3 r38 r37 r33 a3 b3 a32 b32
  generalize nwA M2 (am_n M0 + 1) 8 n = M3
  intro f3 n3 k3 I3 r38 r37 r33 a3 b3 a32 b32
  rw [ti_b106 k3 (by rw [I3, I2]; exact i4) hn (by omega)]
  rw [show am_wR (am_new M3 14 n) (am_n M0 + 1) 9 (am_n M3 + 1) = nwA M3 (am_n M0 + 1) 9 n from rfl]
  have I4 : am_I (nwA M3 (am_n M0 + 1) 9 n) (am_n M0 + 1) = am_I M1 (am_n M0 + 1) := by rw [nwA_I (by omega), I3, I2]
  refine ⟨_, rfl, by rw [nwA_n, n3], nwA_fr f3 (by omega), by rw [nwA_K (by omega)]; exact k3, ⟨by rw [nwA_K (by omega)]; exact a32, by rw [nwA_L (by omega)]; exact b32⟩, ⟨by rw [nwA_K (by omega)]; exact a3, by rw [nwA_L (by omega)]; exact b3⟩, ⟨?_, ?_⟩, ⟨?_, ?_, ?_, ?_⟩, ?_⟩
  · have := nwA_Kn (M := M3) (r := am_n M0 + 1) (j := 9) (n := n); rw [n3] at this; exact this
  · have := nwA_Ln (M := M3) (r := am_n M0 + 1) (j := 9) (n := n); rw [n3] at this; exact this
  · rw [nwA_Ri (by omega) (by decide)]; exact r37
  · rw [nwA_Ri (by omega) (by decide)]; exact r38
  · rw [nwA_R, n3]
  · rw [nwA_Ri (by omega) (by decide)]; exact r33
  · rw [I4]; exact ⟨i0, i1, i2, i4, i5, i6, i10⟩
theorem ti_head {N : Nat} {M0 : am_Mem} {d n : Nat} {w h x1 x3 : Int32} {r4 : Nat} {f : Nat → Sq} (hd0 : 0 < d) (hd : d + 3 ≤ am_n M0) (t : DrT M0 d) (c : DrC M0 d n w h f) (hn : n ≤ 40) : ∃ MH, fn10_init N (am_new M0 10 0) (am_n M0 + 1) x1 d x3 r4 = fn10_init_b119 N N (am_n M0 + 1) d 0 MH ∧ HdQ M0 MH x1 x3 0 r4 n w h := by
  obtain ⟨MH, e, q⟩ := ti_arr (N := N) (M0 := M0) (d := d) (n := n) (x1 := x1) (x3 := x3) (fl := 0) (r4 := r4) (w := w) (h := h) hn
  refine ⟨MH, ?_, q⟩
  rw [← e]
  have hz : ¬ d = 0 := by omega
  have hk : am_K (am_new M0 10 0) (am_n M0 + 1) = 10 := rK_new_eq _ _ _
  have kd : am_K (am_new M0 10 0) d = 0 := by rw [rK_new _ _ _ (by omega)]; exact t.1
  have i0 : am_I (am_new M0 10 0) d = am_I M0 d := rI_new _ _ _ (by omega)
  have nd : ¬ d = am_n M0 + 1 := by omega
  show fn10_init_b0 N (am_n M0 + 1) x1 d x3 r4 (am_new M0 10 0) = _
  unfold tiI
  rw [ti_b0 hk, ti_b9 (by simp only [qK_wI, qK_wR]; exact hk), ti_b14 (by simp only [qK_wI, qK_wR]; exact hk), ti_b19 (by simp only [qK_wI, qK_wR]; exact hk), ti_b25 (by simp only [qK_wI, qK_wR]; exact hk) hz]
  rw [ti_b38 (n := n) (by simp only [qK_wI, qK_wR]; exact hk) hz (by simp only [qK_wI, qK_wR]; exact kd) (by simp only [rI_ne _ _ _ nd, qI_wR]; rw [i0]; exact c.1)]
  rw [ti_b54 (w := w) (by simp only [qK_wI, qK_wR]; exact hk) hz (by simp only [qK_wI, qK_wR]; exact kd) (by simp only [rI_ne _ _ _ nd, qI_wR]; rw [i0]; exact c.2.1)]
  rw [ti_b70 (h := h) (by simp only [qK_wI, qK_wR]; exact hk) hz (by simp only [qK_wI, qK_wR]; exact kd) (by simp only [rI_ne _ _ _ nd, qI_wR]; rw [i0]; exact c.2.2.1)]
theorem ti_head0 {N : Nat} {M0 : am_Mem} {x1 x3 : Int32} {r4 : Nat} : ∃ MH, fn10_init N (am_new M0 10 0) (am_n M0 + 1) x1 0 x3 r4 = fn10_init_b119 N N (am_n M0 + 1) 0 0 MH ∧ HdQ M0 MH x1 x3 1 r4 0 0 0 := by
  obtain ⟨MH, e, q⟩ := ti_arr (N := N) (M0 := M0) (d := 0) (n := 0) (x1 := x1) (x3 := x3) (fl := 1) (r4 := r4) (w := 0) (h := 0) (by omega)
  refine ⟨MH, ?_, q⟩
  rw [← e]
  have hk : am_K (am_new M0 10 0) (am_n M0 + 1) = 10 := rK_new_eq _ _ _
  show fn10_init_b0 N (am_n M0 + 1) x1 0 x3 r4 (am_new M0 10 0) = _
  unfold tiI
  rw [ti_b0 hk, ti_b9 (by simp only [qK_wI, qK_wR]; exact hk), ti_b14 (by simp only [qK_wI, qK_wR]; exact hk), ti_b19 (by simp only [qK_wI, qK_wR]; exact hk), ti_b25' (by simp only [qK_wI, qK_wR]; exact hk)]
  rw [ti_b38' (by simp only [qK_wI, qK_wR]; exact hk), ti_b54' (by simp only [qK_wI, qK_wR]; exact hk), ti_b70' (by simp only [qK_wI, qK_wR]; exact hk)]
theorem ti_loop {N : Nat} {r d n : Nat} {f : Nat → Sq} {a7 a8 a9 : Nat} (hn : n ≤ 40) (hd0 : ¬ d = 0) (n1 : ¬ r = a7) (n2 : ¬ r = a8) (n3 : ¬ r = a9) (n4 : ¬ a7 = a8) (n5 : ¬ a7 = a9) (n6 : ¬ a8 = a9) (hlt : d + 3 < a7 ∧ d + 3 < a8 ∧ d + 3 < a9) :
    ∀ k j fuel M, j + k = n → k < fuel → DrT M d → am_K M r = 10 → am_I M r 4 = nI n → am_R M r 7 = a7 → am_R M r 8 = a8 → am_R M r 9 = a9 → am_K M a7 = 14 → am_K M a8 = 14 → am_K M a9 = 14 → am_L M a7 = n → am_L M a8 = n → am_L M a9 = n →
    (∀ k, k < n → am_I M (d + 1) k = (f k).1 ∧ am_I M (d + 2) k = (f k).2.1 ∧ am_I M (d + 3) k = (f k).2.2) → (∀ k, k < j → am_I M a7 k = (f k).1 ∧ am_I M a8 k = (f k).2.1 ∧ am_I M a9 k = (f k).2.2) →
    ∃ M', fn10_init_b119 N fuel r d (nI j) M = some ((), M') ∧ Fs [a7, a8, a9] M M' ∧ ∀ k, k < n → am_I M' a7 k = (f k).1 ∧ am_I M' a8 k = (f k).2.1 ∧ am_I M' a9 k = (f k).2.2 := by
  intro k
  induction k with
  | zero =>
    intro j fuel M hj hf t kr i4 r7 r8 r9 k7 k8 k9 l7 l8 l9 cd ct
    obtain ⟨g, rfl⟩ : ∃ g, fuel = g + 1 := ⟨fuel - 1, by omega⟩
    refine ⟨M, ?_, fs_refl _ _, by rw [show n = j from by omega]; exact ct⟩
    show fn10_init_b119B N (fn10_init_b119 N g) r d (nI j) M = _
    unfold fn10_init_b119B fn10_init_b180
    rw [nk_k, kr, nk_dd, i4, if_pos (nI_le (by omega) (by omega))]
  | succ k ih =>
    intro j fuel M hj hf t kr i4 r7 r8 r9 k7 k8 k9 l7 l8 l9 cd ct
    obtain ⟨g, rfl⟩ : ∃ g, fuel = g + 1 := ⟨fuel - 1, by omega⟩
    obtain ⟨b1, b2, b3⟩ := cd j (by omega)
    have h1 := hlt.1
    have h2 := hlt.2.1
    have h3 := hlt.2.2
    have fsx : Fs [a7, a8, a9] M (am_wI (am_wI (am_wI M a7 j (f j).1) a8 j (f j).2.1) a9 j (f j).2.2) :=
      fs_trans (fs_trans (fs_wI _ _ _ List.mem_cons_self) (fs_wI _ _ _ (List.mem_cons_of_mem _ List.mem_cons_self))) (fs_wI _ _ _ (List.mem_cons_of_mem _ (List.mem_cons_of_mem _ List.mem_cons_self)))
    obtain ⟨M', e, f1, c1⟩ := ih (j + 1) g (am_wI (am_wI (am_wI M a7 j (f j).1) a8 j (f j).2.1) a9 j (f j).2.2) (by omega) (by omega) (drt_fs fsx t) kr (by simp (disch := omega) only [rI_ne, i4]) r7 r8 r9 k7 k8 k9 l7 l8 l9
      (fun k hk => by
        obtain ⟨a1, a2, a3⟩ := cd k hk
        simp (disch := omega) only [rI_ne, a1, a2, a3, and_self])
      (fun k hk => by
        by_cases e : k = j
        · subst e
          simp (disch := omega) only [rI_ne, rI_eq, and_self]
        · obtain ⟨a1, a2, a3⟩ := ct k (by omega)
          simp (disch := omega) only [rI_ne, rI_ix, a1, a2, a3, and_self])
    refine ⟨M', ?_, fs_trans fsx f1, c1⟩
    rw [← e]
    obtain ⟨t1, t2, t3, t4, t5, t6, t7, t8, t9, t10⟩ := t
    have hin : am_in (nI j) n = true := nk_in (by omega) (by omega)
    have hin4 : am_in (nI j) 40 = true := nk_in (by omega) (by omega)
    have hcl : (nI j).toNatClampNeg = j := nI_clamp (by omega)
    have hle : ¬ nI n ≤ nI j := nI_ge (by omega) (by omega)
    show fn10_init_b119B N (fn10_init_b119 N g) r d (nI j) M = _
    unfold fn10_init_b119B
    simp (disch := omega) only [nk_k, kr, eq_self, decide_true, nk_ck, i4, hle, if_false, hd0, t1, t2, t3, t4, t5, t6, t7, t8, t9, t10, r7, r8, r9, k7, k8, k9, l7, l8, l9, hin, hin4, hcl, nk_ck, rI_ne, b1, b2, b3, nI_1]
theorem fs_nil_fr {W : List Nat} {M0 M M' : am_Mem} (h : am_Fr [] M0 M) (g : Fs W M M') (hW : ∀ a ∈ W, am_n M0 < a) : am_Fr [] M0 M' := by
  refine ⟨by rw [g.1]; exact h.1, fun a ha => ?_⟩
  obtain ⟨h1, h2, h3, h4⟩ := h.2 a ha
  have hn : a ∉ W := fun h' => by have := hW a h'; omega
  refine ⟨by rw [g.2.1]; exact h1, by rw [g.2.2.1]; exact h2, by rw [g.2.2.2.1]; exact h3, fun hw => ⟨(g.2.2.2.2 a hn).1.trans (h4 hw).1, (g.2.2.2.2 a hn).2.trans (h4 hw).2⟩⟩
/-- a tiling made of a draft -/
def TiQ (M0 M' : am_Mem) (q : Rc) (x1 x3 : Int32) (r4 : Nat) : Prop := am_Fr [] M0 M' ∧ TilR M' (am_n M0 + 1) q ∧ am_I M' (am_n M0 + 1) 0 = x1 ∧ am_I M' (am_n M0 + 1) 2 = x3 ∧ am_R M' (am_n M0 + 1) 3 = r4 ∧ am_I M' (am_n M0 + 1) 10 = -1
theorem ti_new {N : Nat} (hN : 100000 ≤ N) {M0 : am_Mem} {d n : Nat} {w h x1 x3 : Int32} {r4 : Nat} {f : Nat → Sq} (hd0 : 0 < d) (hd : d + 3 ≤ 141) (h141 : 141 ≤ am_n M0) (t : DrT M0 d) (c : DrC M0 d n w h f) (hn : n ≤ 40) : ∃ M', fn10_init N (am_new M0 10 0) (am_n M0 + 1) x1 d x3 r4 = some ((), M') ∧ TiQ M0 M' (0, w, h, ofF f n) x1 x3 r4 := by
  obtain ⟨MH, he, hnn, hfr, hK1, ⟨k7, l7⟩, ⟨k8, l8⟩, ⟨k9, l9⟩, ⟨r7, r8, r9, r3⟩, ⟨i0, i1, i2, i4, i5, i6, i10⟩⟩ := ti_head (N := N) (x1 := x1) (x3 := x3) (r4 := r4) hd0 (by omega) t c hn
  have ht : DrT MH d := by
    obtain ⟨t1, t2, t3, t4, t5, t6, t7, t8, t9, t10⟩ := t
    exact ⟨(fr_K hfr (by omega)).trans t1, by rw [fr_R hfr (by omega)]; exact t2, by rw [fr_R hfr (by omega)]; exact t3, by rw [fr_R hfr (by omega)]; exact t4, (fr_K hfr (by omega)).trans t5, (fr_K hfr (by omega)).trans t6, (fr_K hfr (by omega)).trans t7, (fr_L hfr (by omega)).trans t8, (fr_L hfr (by omega)).trans t9, (fr_L hfr (by omega)).trans t10⟩
  have hcd : ∀ k, k < n → am_I MH (d + 1) k = (f k).1 ∧ am_I MH (d + 2) k = (f k).2.1 ∧ am_I MH (d + 3) k = (f k).2.2 := by
    intro k hk
    rw [fr_I hfr (by omega) (by simp), fr_I hfr (by omega) (by simp), fr_I hfr (by omega) (by simp)]
    exact c.2.2.2 k hk
  obtain ⟨M', e, f1, c1⟩ := ti_loop (N := N) (f := f) hn (by omega) (r := am_n M0 + 1) (a7 := am_n M0 + 2) (a8 := am_n M0 + 3) (a9 := am_n M0 + 4) (by omega) (by omega) (by omega) (by omega) (by omega) (by omega) ⟨by omega, by omega, by omega⟩ n 0 N MH (by omega) (by omega) ht hK1 i4 r7 r8 r9 k7 k8 k9 l7 l8 l9 hcd (fun k hk => absurd hk (Nat.not_lt_zero k))
  have hI : am_I M' (am_n M0 + 1) = am_I MH (am_n M0 + 1) := fs_I f1 (by simp)
  refine ⟨M', he.trans e, fs_nil_fr hfr f1 (by intro a ha; simp only [List.mem_cons, List.not_mem_nil, or_false] at ha; omega), ⟨⟨by omega, by rw [f1.1, hnn]; omega, by rw [f1.2.1]; exact hK1⟩, ⟨?_, ?_, ?_, ?_⟩, ?_, ?_, ?_, ?_, ?_, ?_⟩, by rw [hI]; exact i0, by rw [hI]; exact i2, by rw [f1.2.2.2.1]; exact r3, by rw [hI]; exact i10⟩
  · rw [hI]; exact i1
  · show am_I M' (am_n M0 + 1) 4 = nI (ofF f n).length
    rw [hI, ofF_len]; exact i4
  · rw [hI]; exact i5
  · rw [hI]; exact i6
  · show ArR M' (am_R M' (am_n M0 + 1) 7) (ofF f n).length
    rw [f1.2.2.2.1, r7, ofF_len]
    exact ⟨by omega, by rw [f1.1, hnn]; omega, by rw [f1.2.1]; exact k7, by rw [f1.2.2.1]; exact l7⟩
  · show ArR M' (am_R M' (am_n M0 + 1) 8) (ofF f n).length
    rw [f1.2.2.2.1, r8, ofF_len]
    exact ⟨by omega, by rw [f1.1, hnn]; omega, by rw [f1.2.1]; exact k8, by rw [f1.2.2.1]; exact l8⟩
  · show ArR M' (am_R M' (am_n M0 + 1) 9) (ofF f n).length
    rw [f1.2.2.2.1, r9, ofF_len]
    exact ⟨by omega, by rw [f1.1, hnn]; omega, by rw [f1.2.1]; exact k9, by rw [f1.2.2.1]; exact l9⟩
  · show ∀ k, k < (ofF f n).length → am_I M' (am_R M' (am_n M0 + 1) 7) k = qX (ofF f n) k
    rw [f1.2.2.2.1, r7, ofF_len]
    intro k hk
    rw [ofF_X f hk]; exact (c1 k hk).1
  · show ∀ k, k < (ofF f n).length → am_I M' (am_R M' (am_n M0 + 1) 8) k = qY (ofF f n) k
    rw [f1.2.2.2.1, r8, ofF_len]
    intro k hk
    rw [ofF_Y f hk]; exact (c1 k hk).2.1
  · show ∀ k, k < (ofF f n).length → am_I M' (am_R M' (am_n M0 + 1) 9) k = qS (ofF f n) k
    rw [f1.2.2.2.1, r9, ofF_len]
    intro k hk
    rw [ofF_S f hk]; exact (c1 k hk).2.2
/-- a tiling that fails -/
theorem ti_none {N : Nat} (hN : 100000 ≤ N) {M0 : am_Mem} {x1 x3 : Int32} {r4 : Nat} (h141 : 141 ≤ am_n M0) : ∃ M', fn10_init N (am_new M0 10 0) (am_n M0 + 1) x1 0 x3 r4 = some ((), M') ∧ TiQ M0 M' (1, 0, 0, []) x1 x3 r4 := by
  obtain ⟨MH, he, hnn, hfr, hK1, ⟨k7, l7⟩, ⟨k8, l8⟩, ⟨k9, l9⟩, ⟨r7, r8, r9, r3⟩, ⟨i0, i1, i2, i4, i5, i6, i10⟩⟩ := ti_head0 (N := N) (M0 := M0) (x1 := x1) (x3 := x3) (r4 := r4)
  refine ⟨MH, ?_, hfr, ⟨⟨by omega, by rw [hnn]; omega, hK1⟩, ⟨i1, i4, i5, i6⟩, ?_, ?_, ?_, ?_, ?_, ?_⟩, i0, i2, r3, i10⟩
  · rw [he]
    obtain ⟨g, hg⟩ : ∃ g, N = g + 1 := ⟨N - 1, by omega⟩
    rw [show fn10_init_b119 N N = fn10_init_b119 N (g + 1) from by rw [← hg]]
    show fn10_init_b119B N (fn10_init_b119 N g) (am_n M0 + 1) 0 0 MH = _
    unfold fn10_init_b119B fn10_init_b180
    rw [nk_k, hK1, nk_dd, i4, if_pos (show nI 0 ≤ 0 from by decide)]
  · rw [r7]; exact ⟨by omega, by rw [hnn]; omega, k7, l7⟩
  · rw [r8]; exact ⟨by omega, by rw [hnn]; omega, k8, l8⟩
  · rw [r9]; exact ⟨by omega, by rw [hnn]; omega, k9, l9⟩
  · intro k hk; exact absurd hk (Nat.not_lt_zero k)
  · intro k hk; exact absurd hk (Nat.not_lt_zero k)
  · intro k hk; exact absurd hk (Nat.not_lt_zero k)
