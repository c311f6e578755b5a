def Dyn (M M' : am_Mem) : Prop := am_n M ≤ am_n M' ∧ ∀ a, 141 < a → a ≤ am_n M → am_K M' a = am_K M a ∧ am_L M' a = am_L M a ∧ am_R M' a = am_R M a ∧ am_I M' a = am_I M a ∧ am_J M' a = am_J M a
theorem dyn_fr {W : List Nat} {M M' : am_Mem} (f : am_Fr W M M') (hW : ∀ a ∈ W, a ≤ 141) : Dyn M M' :=
  ⟨f.1, fun a h1 h2 => by
    have hn : a ∉ W := fun h => by have := hW a h; omega
    exact ⟨fr_K f h2, fr_L f h2, fr_R f h2, fr_I f h2 hn, fr_J f h2 hn⟩⟩
theorem dyn_refl (M : am_Mem) : Dyn M M := ⟨Nat.le_refl _, fun _ _ _ => ⟨rfl, rfl, rfl, rfl, rfl⟩⟩
theorem dyn_trans {M M1 M2 : am_Mem} (h : Dyn M M1) (g : Dyn M1 M2) : Dyn M M2 :=
  ⟨Nat.le_trans h.1 g.1, fun a h1 h2 => by
    obtain ⟨a1, a2, a3, a4, a5⟩ := h.2 a h1 h2
    obtain ⟨b1, b2, b3, b4, b5⟩ := g.2 a h1 (Nat.le_trans h2 h.1)
    exact ⟨b1.trans a1, b2.trans a2, b3.trans a3, b4.trans a4, b5.trans a5⟩⟩
theorem dyn_wR {M : am_Mem} {a : Nat} (i v : Nat) (h : a ≤ 141) : Dyn M (am_wR M a i v) :=
  ⟨Nat.le_refl _, fun b h1 _ => ⟨rfl, rfl, rR_ne M i v (by omega), rfl, rfl⟩⟩
theorem dyn_wI {M : am_Mem} {a : Nat} (i : Nat) (v : Int32) (h : a ≤ 141) : Dyn M (am_wI M a i v) :=
  ⟨Nat.le_refl _, fun b h1 _ => ⟨rfl, rfl, rfl, rI_ne M i v (by omega), rfl⟩⟩
theorem dyn_wJ {M : am_Mem} {a : Nat} (i : Nat) (v : Int64) (h : a ≤ 141) : Dyn M (am_wJ M a i v) :=
  ⟨Nat.le_refl _, fun b h1 _ => ⟨rfl, rfl, rfl, rfl, rJ_ne M i v (by omega)⟩⟩
theorem arr_dyn {M M' : am_Mem} {a n : Nat} (d : Dyn M M') (h : ArR M a n) : ArR M' a n := by
  obtain ⟨h1, h2, h3, h4⟩ := h
  obtain ⟨d1, d2, _, _, _⟩ := d.2 a h1 h2
  exact ⟨h1, Nat.le_trans h2 d.1, d1.trans h3, d2.trans h4⟩
theorem arr_I {M M' : am_Mem} {a n : Nat} (d : Dyn M M') (h : ArR M a n) : am_I M' a = am_I M a := (d.2 a h.1 h.2.1).2.2.2.1
theorem tilr_dyn {M M' : am_Mem} {t : Nat} {q : Rc} (d : Dyn M M') (h : TilR M t q) : TilR M' t q := by
  obtain ⟨⟨h1, h2, h3⟩, h4, h5, h6, h7, h8, h9, h10⟩ := h
  obtain ⟨d1, d2, d3, d4, d5⟩ := d.2 t h1 h2
  refine ⟨⟨h1, Nat.le_trans h2 d.1, d1.trans h3⟩, ?_, ?_, ?_, ?_, ?_, ?_, ?_⟩
  · rw [d4]; exact h4
  · rw [d3]; exact arr_dyn d h5
  · rw [d3]; exact arr_dyn d h6
  · rw [d3]; exact arr_dyn d h7
  · rw [d3, arr_I d h5]; exact h8
  · rw [d3, arr_I d h6]; exact h9
  · rw [d3, arr_I d h7]; exact h10
theorem tilr_K {M : am_Mem} {t : Nat} {q : Rc} (h : TilR M t q) : am_K M t = 10 := h.1.2.2
theorem tilr_ne {M : am_Mem} {t : Nat} {q : Rc} (h : TilR M t q) : ¬ t = 0 := by have := h.1.1; omega
theorem q_getD {α : Type} {L : List α} {k : Nat} {d : α} (h : k < L.length) : L.getD k d = L[k] := by
  rw [List.getD_eq_getElem?_getD, List.getElem?_eq_getElem h, Option.getD_some]
theorem q_ext {L L' : List Sq} (h : L.length = L'.length) (hx : ∀ k, k < L.length → qX L k = qX L' k) (hy : ∀ k, k < L.length → qY L k = qY L' k) (hs : ∀ k, k < L.length → qS L k = qS L' k) : L = L' := by
  apply List.ext_getElem h
  intro k h1 h2
  have a1 := hx k h1
  have a2 := hy k h1
  have a3 := hs k h1
  unfold qX at a1
  unfold qY at a2
  unfold qS at a3
  rw [q_getD h1, q_getD h2] at a1 a2 a3
  exact Prod.ext a1 (Prod.ext a2 a3)
theorem tilr_uniq {M : am_Mem} {t : Nat} {q q' : Rc} (h : TilR M t q) (h' : TilR M t q') : q.2.2.2 = q'.2.2.2 := by
  obtain ⟨_, _, h5, _, _, h8, h9, h10⟩ := h
  obtain ⟨_, _, g5, _, _, g8, g9, g10⟩ := h'
  have hl : q.2.2.2.length = q'.2.2.2.length := h5.2.2.2.symm.trans g5.2.2.2
  exact q_ext hl (fun k hk => (h8 k hk).symm.trans (g8 k (by omega))) (fun k hk => (h9 k hk).symm.trans (g9 k (by omega))) (fun k hk => (h10 k hk).symm.trans (g10 k (by omega)))
theorem rowr_fr {M M' : am_Mem} {a o o' a' : Nat} {q : Rc} (hl : q.2.2.2.length ≤ 40) (e : ∀ k, k < 124 → am_I M' a' (o' + k) = am_I M a (o + k)) (h : RowR M a o q) : RowR M' a' o' q := by
  obtain ⟨h1, h2, h3, h4, h5, h6, h7⟩ := h
  have e0 := e 0 (by omega)
  refine ⟨e0.trans h1, (e 1 (by omega)).trans h2, (e 2 (by omega)).trans h3, (e 3 (by omega)).trans h4, fun k hk => ?_, fun k hk => ?_, fun k hk => ?_⟩
  · exact (e (4 + k) (by omega)).trans (h5 k hk)
  · exact (e (44 + k) (by omega)).trans (h6 k hk)
  · exact (e (84 + k) (by omega)).trans (h7 k hk)
/-- the reference's numbers of what was told stay -/
def TolF (M M' : am_Mem) : Prop := am_I M' 121 = am_I M 121 ∧ am_I M' 122 = am_I M 122 ∧ am_I M' 123 = am_I M 123 ∧ am_I M' 125 = am_I M 125 ∧ am_I M' 126 = am_I M 126 ∧ am_J M' 127 = am_J M 127 ∧ am_J M' 128 = am_J M 128 ∧ am_J M' 129 = am_J M 129
theorem tol_refl (M : am_Mem) : TolF M M := ⟨rfl, rfl, rfl, rfl, rfl, rfl, rfl, rfl⟩
theorem netr_fr {M M' : am_Mem} {u i : Nat} (d : Dyn M M') (t : TolF M M') (h : NetR M u i) : NetR M' u i := by
  obtain ⟨⟨h1, h2, h3⟩, h4, h5, h6, p, m, h7, h8, h9, h10, h11, h12, h13, h14, h15⟩ := h
  obtain ⟨d1, d2, d3, d4, d5⟩ := d.2 u h1 h2
  obtain ⟨t1, t2, t3, t4, t5, t6, t7, t8⟩ := t
  refine ⟨⟨h1, Nat.le_trans h2 d.1, d1.trans h3⟩, ?_, ?_, ?_, p, m, h7, h8, ?_, ?_, ?_, ?_, ?_, ?_, ?_⟩
  · rw [d5, t6]; exact h4
  · rw [d5]; exact h5
  · rw [d4, t5]; exact h6
  · rw [d4]; exact h9
  · rw [d4]; exact h10
  · rw [t2]; exact h11
  · rw [t3]; exact h12
  · rw [d3]; exact arr_dyn d h13
  · rw [d3]; exact arr_dyn d h14
  · rw [d5, d3, t7, t8, arr_I d h13, arr_I d h14]; exact h15
theorem told_fr {M M' : am_Mem} {u i : Nat} (hu : 141 < u) (hn : u ≤ am_n M) (d : Dyn M M') (t : TolF M M') (h : ToldR M u i) : ToldR M' u i := by
  obtain ⟨d1, d2, d3, d4, d5⟩ := d.2 u hu hn
  have t0 := t
  obtain ⟨t1, t2, t3, t4, t5, t6, t7, t8⟩ := t
  obtain ⟨h1, h2⟩ := h
  refine ⟨by rw [d4, t1]; exact h1, ?_⟩
  rcases h2 with ⟨a, b, c⟩ | ⟨a, b⟩
  · exact Or.inl ⟨by rw [d4]; exact a, by rw [d4, t4]; exact b, by rw [d3]; exact c⟩
  · exact Or.inr ⟨by rw [d4]; exact a, by rw [d3]; exact netr_fr d t0 b⟩
/-- one rectangle stays, perhaps at another place -/
theorem recr_fr {M M' : am_Mem} {j j' told i : Nat} {q : Rc} (d : Dyn M M') (t : TolF M M') (hR : am_R M' (105 + 2 * j') i = am_R M (105 + 2 * j) i) (hm : ∀ k, k < 124 → am_I M' (mA j') (mO j' + 124 * i + k) = am_I M (mA j) (mO j + 124 * i + k)) (h : RecR M j told i q) : RecR M' j' told i q := by
  obtain ⟨h1, h2, h3, h4, h5, h6⟩ := h
  have d4 : am_I M' (am_R M (105 + 2 * j) i) = am_I M (am_R M (105 + 2 * j) i) := (d.2 _ h1.1.1 h1.1.2.1).2.2.2.1
  have d3 : am_R M' (am_R M (105 + 2 * j) i) = am_R M (am_R M (105 + 2 * j) i) := (d.2 _ h1.1.1 h1.1.2.1).2.2.1
  refine ⟨?_, rowr_fr (good_len h3) hm h2, h3, ?_, fun hi => ?_, fun hi => ?_⟩
  · rw [hR]; exact tilr_dyn d h1
  · unfold CchR; rw [hR, d4]; exact h4
  · rw [hR]; exact told_fr h1.1.1 h1.1.2.1 d t (h5 hi)
  · rw [hR, d4, d3]; exact h6 hi
theorem shr_fr {M M' : am_Mem} {j told m : Nat} {D : Nat → Rc} (d : Dyn M M') (t : TolF M M') (hR : am_R M' (105 + 2 * j) = am_R M (105 + 2 * j)) (h1 : am_I M' (104 + 2 * j) 1 = am_I M (104 + 2 * j) 1) (hm : am_I M' (mA j) = am_I M (mA j)) (h : ShR M j told m D) : ShR M' j told m D :=
  ⟨h.1, h.2.1, h1.trans h.2.2.1, fun i hi => recr_fr d t (by rw [hR]) (fun k _ => by rw [hm]) (h.2.2.2 i hi)⟩
theorem kepr_fr {M M' : am_Mem} {j told : Nat} (d : Dyn M M') (t : TolF M M') (hR : am_R M' (105 + 2 * j) = am_R M (105 + 2 * j)) (hI : am_I M' (104 + 2 * j) = am_I M (104 + 2 * j)) (hm : am_I M' (mA j) = am_I M (mA j)) (h9 : am_I M' 119 = am_I M 119) (h0 : am_I M' 120 = am_I M 120) (h : KepR M j told) : KepR M' j told := by
  rcases h with ⟨a, b⟩ | ⟨a, b, m, D, c, e⟩
  · exact Or.inl ⟨by rw [hI]; exact a, by rw [h0]; exact b⟩
  · exact Or.inr ⟨by rw [hI]; exact a, by rw [h0]; exact b, m, D, shr_fr d t hR (by rw [hI]) hm c, by rw [h9]; exact e⟩
theorem ltr_fr {M M' : am_Mem} {l : List Ln} (h7 : am_I M' 97 4 = am_I M 97 4) (h8 : am_I M' 98 = am_I M 98) (h9 : am_I M' 99 = am_I M 99) (h10 : am_I M' 100 = am_I M 100) (h11 : am_I M' 101 = am_I M 101) (h : LtR M l) : LtR M' l := by
  unfold LtR
  rw [h7, h8, h9, h10, h11]
  exact h
theorem linr_fr {M M' : am_Mem} (d : Dyn M M') (hr : am_R M' 97 5 = am_R M 97 5) (h7 : am_I M' 97 4 = am_I M 97 4) (h8 : am_I M' 98 = am_I M 98) (h9 : am_I M' 99 = am_I M 99) (h10 : am_I M' 100 = am_I M 100) (h11 : am_I M' 101 = am_I M 101) (h : LinR M) : LinR M' := by
  unfold LinR
  rw [hr]
  intro h0
  obtain ⟨q, a, b⟩ := h h0
  exact ⟨q, tilr_dyn d a, ltr_fr h7 h8 h9 h10 h11 b⟩
/-- things that the invariant doesn't look at (but for few places of 2 and 110) -/
def scr : List Nat := [2, 4, 5, 6, 8, 9, 10, 11, 12, 13, 15, 16, 17, 18, 19, 20, 21, 22, 23, 24, 27, 28, 29, 30, 31, 32, 33, 34, 35, 36, 37, 38, 39, 40, 41, 42, 43, 44, 45, 46, 47, 48, 49, 50, 51, 52, 53, 54, 55, 56, 57, 58, 59, 60, 61, 62, 63, 64, 65, 66, 67, 68, 69, 70, 71, 72, 73, 74, 75, 76, 77, 78, 79, 80, 81, 82, 83, 84, 85, 86, 87, 88, 89, 90, 91, 92, 93, 94, 95, 96, 110, 112, 113, 114, 115, 116, 124, 130, 131, 132, 133, 134, 136, 137, 138, 139, 140, 141]
theorem scr_le : ∀ a ∈ scr, a ≤ 141 := by decide +kernel
theorem scr_out : ∀ a ∈ [1, 3, 97, 98, 99, 100, 101, 102, 103, 104, 106, 108, 111, 117, 118, 119, 120, 121, 122, 123, 125, 126, 127, 128, 129, 135], a ∉ scr := by decide +kernel
theorem inv_scr {W : List Nat} {M M' : am_Mem} {told m : Nat} {D : Nat → Rc} (h : InvAt M told m D) (f : am_Fr W M M') (hW : ∀ a ∈ W, a ∈ scr) (h2 : am_I M' 2 7 = am_I M 2 7) (ha : am_I M' 110 2 = am_I M 110 2) (hb : am_I M' 110 18 = am_I M 110 18) (hc : am_I M' 110 19 = am_I M 110 19) (hd : am_I M' 110 40 = am_I M 110 40) (he : am_I M' 110 42 = am_I M 110 42) : InvAt M' told m D := by
  have f := fr_mono f hW
  obtain ⟨s, ⟨tf, t1, t2, t3, t4⟩, ⟨pf, p1, p2, p3, p4⟩, l, ⟨u, u1, u2, u3⟩, g1, g2, g3, g4, g5, g6⟩ := h
  have hn := s.1
  have d : Dyn M M' := dyn_fr f scr_le
  have o := scr_out
  have fi : ∀ a ∈ [1, 3, 97, 98, 99, 100, 101, 102, 103, 104, 106, 108, 111, 117, 118, 119, 120, 121, 122, 123, 125, 126, 127, 128, 129, 135], am_I M' a = am_I M a := fun a h => fr_I f (by
    have : ∀ a ∈ [1, 3, 97, 98, 99, 100, 101, 102, 103, 104, 106, 108, 111, 117, 118, 119, 120, 121, 122, 123, 125, 126, 127, 128, 129, 135], a ≤ 141 := by decide
    exact Nat.le_trans (this a h) hn) (o a h)
  have fj : ∀ a ∈ [127, 128, 129], am_J M' a = am_J M a := fun a h => fr_J f (by
    have : ∀ a ∈ [127, 128, 129], a ≤ 141 := by decide
    exact Nat.le_trans (this a h) hn) (o a (by
      have : ∀ a ∈ [127, 128, 129], a ∈ [1, 3, 97, 98, 99, 100, 101, 102, 103, 104, 106, 108, 111, 117, 118, 119, 120, 121, 122, 123, 125, 126, 127, 128, 129, 135] := by decide
      exact this a h))
  have tol : TolF M M' := ⟨fi 121 (by decide), fi 122 (by decide), fi 123 (by decide), fi 125 (by decide), fi 126 (by decide), fj 127 (by decide), fj 128 (by decide), fj 129 (by decide)⟩
  refine ⟨shp_fr s f, ⟨tf, t1, by rw [h2]; exact t2, by rw [ha]; exact t3, fun i hi => ?_⟩, ⟨pf, p1, by rw [fi 102 (by decide)]; exact p2, by rw [he]; exact p3, fun i hi => ?_⟩, ?_, ⟨u, u1, by rw [fi 1 (by decide)]; exact u2, by rw [hc]; exact u3⟩, g1, by rw [hd]; exact g2, by rw [hb]; exact g3, ?_, ?_, ?_⟩
  · rw [fi 3 (by decide), fi 111 (by decide)]; exact t4 i hi
  · rw [fi 103 (by decide), fi 135 (by decide)]; exact p4 i hi
  · exact linr_fr d (by rw [fr_R f (by omega)]) (by rw [fi 97 (by decide)]) (fi 98 (by decide)) (fi 99 (by decide)) (fi 100 (by decide)) (fi 101 (by decide)) l
  · exact shr_fr d tol (fr_R f (by omega)) (by rw [fi (104 + 2 * 0) (by decide)]) (fi 117 (by decide)) g4
  · exact kepr_fr d tol (fr_R f (by omega)) (fi (104 + 2 * 1) (by decide)) (fi 118 (by decide)) (fi 119 (by decide)) (fi 120 (by decide)) g5
  · exact kepr_fr d tol (fr_R f (by omega)) (fi (104 + 2 * 2) (by decide)) (fi 118 (by decide)) (fi 119 (by decide)) (fi 120 (by decide)) g6
theorem inv_thr {M : am_Mem} {told m : Nat} {D : Nat → Rc} (h : InvAt M told m D) (v : Int32) : InvAt (am_wI M 110 0 v) told m D :=
  inv_scr h (fr_wI M (W := [110]) 0 v (by decide)) (by decide +kernel) (by rw [rI_ne M 0 v (by decide)]) (rI_ix M 110 v (by decide)) (rI_ix M 110 v (by decide)) (rI_ix M 110 v (by decide)) (rI_ix M 110 v (by decide)) (rI_ix M 110 v (by decide))
