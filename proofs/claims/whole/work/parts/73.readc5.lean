/-- what a line tells: its kind, the numbers drawn with their groups, the points, the wires -/
abbrev Ld := Nat × List (Nat × Nat) × Nat × List Nat
def ld0 : Ld := (0, [], 0, [])
def lnD (T : Nat → Int32) (n q : Nat) : Int32 × Nat × Ld := if (gDr T n q).1 = 0 then (if tkK T n (gDr T n q).2.1 = 5 then (0, tkE T n (gDr T n q).2.1, (0, (gDr T n q).2.2, 0, [])) else (ft T n (gDr T n q).2.1 1, q, ld0)) else ((gDr T n q).1, q, ld0)
def lnN (T : Nat → Int32) (n q : Nat) : Int32 × Nat × Ld := if (nNt T n q).1 = 0 then (if tkK T n (nNt T n q).2.1 = 5 then (0, tkE T n (nNt T n q).2.1, (1, [], (nNt T n q).2.2.1, (nNt T n q).2.2.2)) else (ft T n (nNt T n q).2.1 1, q, ld0)) else ((nNt T n q).1, q, ld0)
def lnR (T : Nat → Int32) (n : Nat) (Q : List Nat) (p : Nat) : Int32 × Nat × Ld :=
  if isDw T n p ∨ isNw T n p then (if 6 ≤ Q.length then (ft T n p 4, p, ld0) else if tkK T n (tkE T n p) = 1 ∧ ¬ isDw T n (tkE T n p) ∧ ¬ isNw T n (tkE T n p) then (if ∃ r ∈ Q, wW T n r = wW T n (tkE T n p) then (ft T n (tkE T n p) 2, p, ld0) else if isDw T n p then lnD T n (tkE T n (tkE T n p)) else lnN T n (tkE T n (tkE T n p))) else (ft T n (tkE T n p) 1, p, ld0)) else (ft T n p 1, p, ld0)
def rdW : List Nat := [2, 4, 5, 6, 8, 9, 10, 11, 12, 13, 15, 16, 17, 18, 19, 20]
theorem rdW_t {t : Nat} (ht : t < 6) : ∀ a ∈ [2, 6, 8 + t, 15 + t], a ∈ rdW := by
  match t, ht with
  | 0, _ => decide
  | 1, _ => decide
  | 2, _ => decide
  | 3, _ => decide
  | 4, _ => decide
  | 5, _ => decide
/-- what the class holds of a line -/
def LdC (M : am_Mem) (i : Nat) (d : Ld) : Prop := (d.1 = 0 ∧ am_I M 5 i = 1 ∧ am_I M 6 i = nI d.2.1.length ∧ d.2.1.length ≤ 24 ∧ ∀ j (h : j < d.2.1.length), am_I M (8 + i) j = nI (d.2.1[j]).1 ∧ am_I M (15 + i) j = nI (d.2.1[j]).2) ∨
  (d.1 = 1 ∧ am_I M 5 i = 0 ∧ am_I M 6 i = nI (1 + d.2.2.2.length) ∧ (2 ≤ d.2.2.1 ∧ d.2.2.1 ≤ 9 ∧ ∃ j, d.2.2.2.length = 2 * j ∧ j ≤ 14 ∧ ∀ v ∈ d.2.2.2, v < d.2.2.1) ∧ am_I M (8 + i) 0 = nI d.2.2.1 ∧ ∀ j (h : j < d.2.2.2.length), am_I M (8 + i) (1 + j) = nI (d.2.2.2[j]))
/-- the lines before t stay -/
def Bef (M M' : am_Mem) (t : Nat) : Prop := ∀ i, i < t → am_J M' 4 i = am_J M 4 i ∧ am_I M' 5 i = am_I M 5 i ∧ am_I M' 6 i = am_I M 6 i ∧ am_I M' (8 + i) = am_I M (8 + i) ∧ am_I M' (15 + i) = am_I M (15 + i)
theorem bef_trans {M M1 M2 : am_Mem} {t : Nat} (h : Bef M M1 t) (g : Bef M1 M2 t) : Bef M M2 t := fun i hi => by
  obtain ⟨a1, a2, a3, a4, a5⟩ := h i hi
  obtain ⟨b1, b2, b3, b4, b5⟩ := g i hi
  exact ⟨b1.trans a1, b2.trans a2, b3.trans a3, b4.trans a4, b5.trans a5⟩
theorem bef_rdf {M M' : am_Mem} {t : Nat} (ht : t < 6) (r : RdF M M' t) : Bef M M' t := fun i hi => by
  refine ⟨?_, ?_, r.2.2 i (by omega), ?_, ?_⟩
  · rw [fs_J r.1 (by simp; omega)]
  · rw [fs_I r.1 (by simp; omega)]
  · exact fs_I r.1 (by simp; omega)
  · exact fs_I r.1 (by simp; omega)
theorem bef_nx {M M' : am_Mem} (t : Nat) (f : Fs [2] M M') : Bef M M' t := fun i _ => by
  refine ⟨?_, ?_, ?_, ?_, ?_⟩
  · rw [fs_J f (by decide)]
  · rw [fs_I f (by decide)]
  · rw [fs_I f (by decide)]
  · exact fs_I f (by rw [List.mem_singleton]; omega)
  · exact fs_I f (by rw [List.mem_singleton]; omega)
theorem ldc_bef {M M' : am_Mem} {t i : Nat} {d : Ld} (b : Bef M M' t) (hi : i < t) (h : LdC M i d) : LdC M' i d := by
  obtain ⟨b1, b2, b3, b4, b5⟩ := b i hi
  unfold LdC at h ⊢
  rw [b2, b3, b4, b5]
  exact h
section
variable {T : Nat → Int32} {n t : Nat}
/-- the end of a line -/
theorem le_c {N p : Nat} {M : am_Mem} (hN : 100000 ≤ N) (hn : n ≤ 600) (ht : t < 6) (h : CAt T n p M) (e8 : am_I M 2 8 = nI t) : ∃ M', fn8_readLine_b146 N 0 2 M = some ((if tkK T n p = 5 then 0 else ft T n p 1), M') ∧ Fs [2] M M' ∧ am_I M' 2 7 = am_I M 2 7 ∧ (tkK T n p = 5 → CAt T n (tkE T n p) M' ∧ am_I M' 2 8 = nI (t + 1)) := by
  unfold fn8_readLine_b146
  rw [if_pos rfl, nk_k, sk2 h.1, nk_dd, ca_k h]
  by_cases k5 : tkK T n p = 5
  · rw [if_pos k5, if_pos k5, e8, nI_1]
    have f1 : Fs [2] M (am_wI M 2 8 (nI (t + 1))) := fs_wI _ _ _ List.mem_cons_self
    have h1 : CAt T n p (am_wI M 2 8 (nI (t + 1))) := by
      obtain ⟨s, tp, hp, c1, c2, c3, c4, c5, c6⟩ := h
      refine ⟨fs_shp f1 s, fun x hx => by rw [fs_I f1 (by decide)]; exact tp x hx, hp, ?_, ?_, ?_, ?_, ?_, ?_⟩
      · rw [rI_ix _ _ _ (by decide)]; exact c1
      · rw [rI_ix _ _ _ (by decide)]; exact c2
      · rw [rI_ix _ _ _ (by decide)]; exact c3
      · rw [rI_ix _ _ _ (by decide)]; exact c4
      · rw [qJ_wI]; exact c5
      · rw [qJ_wI]; exact c6
    obtain ⟨M2, a1, a2, a3, a4⟩ := ca_nx hN hn h1
    refine ⟨M2, by rw [a1, nk_bd], fs_trans f1 a2, ?_, fun _ => ⟨a4, ?_⟩⟩
    · rw [a3 7 (by decide) (by decide) (by decide), rI_ix _ _ _ (by decide)]
    · rw [a3 8 (by decide) (by decide) (by decide), rI_eq]
  · rw [if_neg k5, if_neg k5, ca_ft h, nk_bd]
    exact ⟨M, rfl, fs_refl _ _, rfl, fun z => absurd z k5⟩
end
