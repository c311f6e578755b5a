theorem uniq_srt {α : Type} {R : α → α → Prop} (irr : ∀ x, ¬ R x x) (asy : ∀ x y, R x y → ¬ R y x) : ∀ {T T' : List α}, T.Pairwise R → T'.Pairwise R → (∀ t, t ∈ T ↔ t ∈ T') → T = T'
  | [], [], _, _, _ => rfl
  | [], b :: l', _, _, h => absurd ((h b).mpr List.mem_cons_self) (List.not_mem_nil)
  | a :: l, [], _, _, h => absurd ((h a).mp List.mem_cons_self) (List.not_mem_nil)
  | a :: l, b :: l', p, p', h => by
    rw [List.pairwise_cons] at p p'
    have ab : a = b := by
      refine Classical.byContradiction (fun hn => ?_)
      have h1 : R b a := by
        rcases List.mem_cons.mp ((h a).mp List.mem_cons_self) with e | e
        · exact absurd e hn
        · exact p'.1 a e
      have h2 : R a b := by
        rcases List.mem_cons.mp ((h b).mpr List.mem_cons_self) with e | e
        · exact absurd e.symm hn
        · exact p.1 b e
      exact asy _ _ h1 h2
    subst ab
    congr 1
    refine uniq_srt irr asy p.2 p'.2 (fun t => ?_)
    constructor
    · intro ht
      rcases List.mem_cons.mp ((h t).mp (List.mem_cons_of_mem _ ht)) with e | e
      · subst e; exact absurd (p.1 t ht) (irr t)
      · exact e
    · intro ht
      rcases List.mem_cons.mp ((h t).mpr (List.mem_cons_of_mem _ ht)) with e | e
      · subst e; exact absurd (p'.1 t ht) (irr t)
      · exact e
def ltq (a b : Sq) : Prop := a.2.1.toInt < b.2.1.toInt ∨ (a.2.1.toInt = b.2.1.toInt ∧ a.1.toInt < b.1.toInt)
theorem gtQ_no {a b : Sq} : gtQ a b = false ↔ ¬ ltq b a := by
  unfold gtQ ltq
  rw [Bool.or_eq_false_iff, Bool.and_eq_false_iff, decide_eq_false_iff_not, decide_eq_false_iff_not, decide_eq_false_iff_not, Int32.lt_iff_toInt_lt, Int32.lt_iff_toInt_lt, ← Int32.toInt_inj]
  omega
theorem sd_lt {f : Nat → Sq} {n : Nat} (h : Sd f n) (hd : (ofF f n).Pairwise dsj) (hs : ∀ q ∈ ofF f n, 1 ≤ q.2.2.toInt) : (ofF f n).Pairwise ltq := by
  have ge : ∀ (i : Nat) (h : i < (ofF f n).length), (ofF f n)[i] = f i := by
    intro i h
    have := ofF_get f (n := n) (k := i) (by rw [ofF_len] at h; exact h)
    rw [q_getD h] at this
    exact this
  have dj : ∀ i j, i < j → j < n → dsj (f i) (f j) := by
    intro i j h1 h2
    have := List.pairwise_iff_getElem.mp hd i j (by rw [ofF_len]; omega) (by rw [ofF_len]; omega) h1
    rw [ge, ge] at this
    exact this
  have sp : ∀ i, i < n → 1 ≤ (f i).2.2.toInt := fun i hi => hs _ (ofF_mem.mpr ⟨i, hi, rfl⟩)
  have key : ∀ c i, i + c + 1 < n → ltq (f i) (f (i + c + 1)) := by
    intro c
    have adj : ∀ i, i + 1 < n → ltq (f i) (f (i + 1)) := by
      intro i hi
      have a := gtQ_no.mp (h i hi)
      have b := dj i (i + 1) (by omega) hi
      have s1 := sp i (by omega)
      have s2 := sp (i + 1) hi
      unfold ltq at a ⊢
      unfold dsj at b
      omega
    induction c with
    | zero => intro i hi; exact adj i hi
    | succ c ih =>
      intro i hi
      have a := ih i (by omega)
      have b := adj (i + c + 1) (by omega)
      rw [show i + (c + 1) + 1 = i + c + 1 + 1 from by omega]
      unfold ltq at a b ⊢
      omega
  rw [List.pairwise_iff_getElem]
  intro i j h1 h2 hij
  rw [ge, ge]
  rw [ofF_len] at h2
  have := key (j - i - 1) i (by omega)
  rw [show i + (j - i - 1) + 1 = j from by omega] at this
  exact this
/-- what the class looks at -/
def CA (q1 q2 : Rc) (τ : Nat) : Prop := ttW 0 q1 / nI (gcL q1.2.2.2) = ttW τ q2 / nI (gcL q2.2.2.2) ∧ ttH 0 q1 / nI (gcL q1.2.2.2) = ttH τ q2 / nI (gcL q2.2.2.2) ∧ ∀ k, k < q1.2.2.2.length → sor q1.2.2.2.length (ttF 0 (nI (gcL q1.2.2.2)) q1) k = sor q1.2.2.2.length (ttF τ (nI (gcL q2.2.2.2)) q2) k
/-- what the reference looks at -/
def MA (q1 q2 : Rc) (τ : Nat) : Prop := (ttH τ q1).toInt * q2.2.1.toInt = q2.2.2.1.toInt * (ttW τ q1).toInt ∧ ∀ k, k < q1.2.2.2.length → ∃ i, i < q2.2.2.2.length ∧ (tnQ τ q1.2.1 q1.2.2.1 (sqF q1.2.2.2 k)).1.toInt * q2.2.1.toInt = (qX q2.2.2.2 i).toInt * (ttW τ q1).toInt ∧ (tnQ τ q1.2.1 q1.2.2.1 (sqF q1.2.2.2 k)).2.1.toInt * q2.2.1.toInt = (qY q2.2.2.2 i).toInt * (ttW τ q1).toInt ∧ (tnQ τ q1.2.1 q1.2.2.1 (sqF q1.2.2.2 k)).2.2.toInt * q2.2.1.toInt = (qS q2.2.2.2 i).toInt * (ttW τ q1).toInt
theorem toZ_inj {a b : Sq} (h : toZ a = toZ b) : a = b := by
  obtain ⟨a1, a2, a3⟩ := a
  obtain ⟨b1, b2, b3⟩ := b
  have h1 : a1.toInt = b1.toInt := congrArg (fun x : Sz => x.1) h
  have h2 : a2.toInt = b2.toInt := congrArg (fun x : Sz => x.2.1) h
  have h3 : a3.toInt = b3.toInt := congrArg (fun x : Sz => x.2.2) h
  rw [Int32.toInt_inj.mp h1, Int32.toInt_inj.mp h2, Int32.toInt_inj.mp h3]
theorem ttF_list (τ : Nat) (c : Int32) (q : Rc) : ofF (ttF τ c q) q.2.2.2.length = q.2.2.2.map (fun p => dvQ c (tnQ τ q.2.1 q.2.2.1 p)) :=
  sqF_map (fun p => dvQ c (tnQ τ q.2.1 q.2.2.1 p)) q.2.2.2
/-- the squares turned and divided -/
theorem ttZ {q : Rc} (g : Geo q.2.1.toInt q.2.2.1.toInt q.2.2.2) {τ : Nat} (h8 : τ < 8) : (ofF (ttF τ (nI (gcL q.2.2.2)) q) q.2.2.2.length).map toZ = ((q.2.2.2.map (dvQ (nI (gcL q.2.2.2)))).map toZ).map (tnZ τ (q.2.1 / nI (gcL q.2.2.2)).toInt (q.2.2.1 / nI (gcL q.2.2.2)).toInt) := by
  obtain ⟨l1, l2, l3, l4, l5, l6, l7⟩ := lst_of g
  have hg := gcL_pos g
  have hlt := gcL_lt q.2.2.2
  rw [ttF_list, List.map_map, List.map_map, List.map_map]
  refine List.map_congr_left (fun p hp => ?_)
  have e1 := tn_Z g τ hp
  obtain ⟨z1, z2, z3, z4, z5⟩ := (geoZ_turn h8 l5).1 (tnZ τ _ _ (toZ (dvQ (nI (gcL q.2.2.2)) p))) (List.mem_map.mpr ⟨_, List.mem_map.mpr ⟨_, List.mem_map.mpr ⟨_, hp, rfl⟩, rfl⟩, rfl⟩)
  have hp2 : toZ p = ((toZ (dvQ (nI (gcL q.2.2.2)) p)).1 * (gcL q.2.2.2 : Int), (toZ (dvQ (nI (gcL q.2.2.2)) p)).2.1 * (gcL q.2.2.2 : Int), (toZ (dvQ (nI (gcL q.2.2.2)) p)).2.2 * (gcL q.2.2.2 : Int)) := by
    have ll := l4
    rw [List.map_map, List.map_map] at ll
    exact List.map_inj_left.mp ll p hp
  rw [hp2, l2, l3, tnZ_mul] at e1
  have x1 : (tnQ τ q.2.1 q.2.2.1 p).1.toInt = _ := congrArg (fun x : Sz => x.1) e1
  have x2 : (tnQ τ q.2.1 q.2.2.1 p).2.1.toInt = _ := congrArg (fun x : Sz => x.2.1) e1
  have x3 : (tnQ τ q.2.1 q.2.2.1 p).2.2.toInt = _ := congrArg (fun x : Sz => x.2.2) e1
  have g0 : (gcL q.2.2.2 : Int) ≠ 0 := by omega
  have nn : ∀ {a : Int}, 0 ≤ a → 0 ≤ a * (gcL q.2.2.2 : Int) := fun ha => Int.mul_nonneg ha (by omega)
  refine sz_ext ?_ ?_ ?_
  · show ((tnQ τ q.2.1 q.2.2.1 p).1 / nI (gcL q.2.2.2)).toInt = _
    rw [i32_divT (by rw [x1]; exact nn z1) hg hlt, x1]
    exact Int.mul_ediv_cancel _ g0
  · show ((tnQ τ q.2.1 q.2.2.1 p).2.1 / nI (gcL q.2.2.2)).toInt = _
    rw [i32_divT (by rw [x2]; exact nn z2) hg hlt, x2]
    exact Int.mul_ediv_cancel _ g0
  · show ((tnQ τ q.2.1 q.2.2.1 p).2.2 / nI (gcL q.2.2.2)).toInt = _
    rw [i32_divT (by rw [x3]; exact nn (by omega)) hg hlt, x3]
    exact Int.mul_ediv_cancel _ g0
theorem ttWZ (τ : Nat) (q : Rc) (c : Int32) : (ttW τ q / c).toInt = wZ τ (q.2.1 / c).toInt (q.2.2.1 / c).toInt ∧ (ttH τ q / c).toInt = hZ τ (q.2.1 / c).toInt (q.2.2.1 / c).toInt := by
  unfold ttW ttH wZ hZ
  constructor
  · split <;> rfl
  · split <;> rfl
section
variable {q1 q2 : Rc}
/-- both ways say the same -/
theorem CA_iff (g1 : Geo q1.2.1.toInt q1.2.2.1.toInt q1.2.2.2) (g2 : Geo q2.2.1.toInt q2.2.2.1.toInt q2.2.2.2) (hn : q1.2.2.2.length = q2.2.2.2.length) {τ : Nat} (h8 : τ < 8) : CA q1 q2 τ ↔ ((q1.2.1 / nI (gcL q1.2.2.2)).toInt = wZ τ (q2.2.1 / nI (gcL q2.2.2.2)).toInt (q2.2.2.1 / nI (gcL q2.2.2.2)).toInt ∧ (q1.2.2.1 / nI (gcL q1.2.2.2)).toInt = hZ τ (q2.2.1 / nI (gcL q2.2.2.2)).toInt (q2.2.2.1 / nI (gcL q2.2.2.2)).toInt ∧ ∀ z, z ∈ (q1.2.2.2.map (dvQ (nI (gcL q1.2.2.2)))).map toZ ↔ z ∈ ((q2.2.2.2.map (dvQ (nI (gcL q2.2.2.2)))).map toZ).map (tnZ τ (q2.2.1 / nI (gcL q2.2.2.2)).toInt (q2.2.2.1 / nI (gcL q2.2.2.2)).toInt)) := by
  obtain ⟨w0, h0⟩ := ttWZ 0 q1 (nI (gcL q1.2.2.2))
  obtain ⟨wτ, hτ⟩ := ttWZ τ q2 (nI (gcL q2.2.2.2))
  have zA := ttZ g1 (τ := 0) (by decide)
  have zA' : ((q1.2.2.2.map (dvQ (nI (gcL q1.2.2.2)))).map toZ).map (tnZ 0 (q1.2.1 / nI (gcL q1.2.2.2)).toInt (q1.2.2.1 / nI (gcL q1.2.2.2)).toInt) = (q1.2.2.2.map (dvQ (nI (gcL q1.2.2.2)))).map toZ := by
    rw [show ((q1.2.2.2.map (dvQ (nI (gcL q1.2.2.2)))).map toZ).map (tnZ 0 (q1.2.1 / nI (gcL q1.2.2.2)).toInt (q1.2.2.1 / nI (gcL q1.2.2.2)).toInt) = ((q1.2.2.2.map (dvQ (nI (gcL q1.2.2.2)))).map toZ).map id from List.map_congr_left (fun z _ => sz_ext rfl rfl rfl), List.map_id]
  rw [zA'] at zA
  have zB := ttZ g2 h8
  rw [← hn] at zB
  -- members of the sorted ones
  have mA : ∀ p, p ∈ ofF (sor q1.2.2.2.length (ttF 0 (nI (gcL q1.2.2.2)) q1)) q1.2.2.2.length ↔ p ∈ ofF (ttF 0 (nI (gcL q1.2.2.2)) q1) q1.2.2.2.length := fun p => (sor_perm _ _).mem_iff
  have mB : ∀ p, p ∈ ofF (sor q1.2.2.2.length (ttF τ (nI (gcL q2.2.2.2)) q2)) q1.2.2.2.length ↔ p ∈ ofF (ttF τ (nI (gcL q2.2.2.2)) q2) q1.2.2.2.length := fun p => (sor_perm _ _).mem_iff
  have zm : ∀ {K : List Sq} {p : Sq}, toZ p ∈ K.map toZ ↔ p ∈ K := fun {K p} => by
    rw [List.mem_map]
    constructor
    · rintro ⟨r, hr, e⟩; rw [← toZ_inj e]; exact hr
    · intro hr; exact ⟨p, hr, rfl⟩
  constructor
  · rintro ⟨a, b, c⟩
    refine ⟨?_, ?_, fun z => ?_⟩
    · rw [← wτ, ← a, w0]; rfl
    · rw [← hτ, ← b, h0]; rfl
    · have e := ofF_ext c
      rw [← zA, ← zB]
      constructor
      · intro hz
        obtain ⟨p, hp, rfl⟩ := List.mem_map.mp hz
        have := (mA p).mpr hp
        rw [e] at this
        exact zm.mpr ((mB p).mp this)
      · intro hz
        obtain ⟨p, hp, rfl⟩ := List.mem_map.mp hz
        have := (mB p).mpr hp
        rw [← e] at this
        exact zm.mpr ((mA p).mp this)
  · rintro ⟨a, b, c⟩
    refine ⟨?_, ?_, ?_⟩
    · apply Int32.toInt_inj.mp
      rw [w0, wτ]
      exact a
    · apply Int32.toInt_inj.mp
      rw [h0, hτ]
      exact b
    · -- both are put in order, and have the same squares
      obtain ⟨k1, k2, k3, k4, k5, k6, k7⟩ := lst_of g1
      obtain ⟨l1, l2, l3, l4, l5, l6, l7⟩ := lst_of g2
      have geoA := k5
      rw [← zA] at geoA
      have geoB := geoZ_turn h8 l5
      rw [← zB] at geoB
      have srt : ∀ {f : Nat → Sq} {u v : Int}, GeoZ u v ((ofF f q1.2.2.2.length).map toZ) → (ofF (sor q1.2.2.2.length f) q1.2.2.2.length).Pairwise ltq := by
        intro f u v gf
        have p := sor_perm q1.2.2.2.length f
        have pd : (ofF f q1.2.2.2.length).Pairwise dsj := by
          have := gf.2.1
          rw [List.pairwise_map] at this
          exact this
        refine sd_lt (sor_Sd _ _) ((p.pairwise_iff (fun h => dsj_symm h)).mpr pd) (fun x hx => ?_)
        exact (gf.1 (toZ x) (List.mem_map.mpr ⟨x, p.mem_iff.mp hx, rfl⟩)).2.2.1
      have e := uniq_srt (R := ltq) (fun x h => by unfold ltq at h; omega) (fun x y h1 h2 => by unfold ltq at h1 h2; omega) (srt geoA) (srt geoB) (fun p => by
        rw [mA, mB, ← zm, ← zm (K := ofF (ttF τ (nI (gcL q2.2.2.2)) q2) q1.2.2.2.length), zA, zB]
        exact c (toZ p))
      intro k hk
      have e1 := congrArg (fun l : List Sq => l.getD k (0, 0, 0)) e
      have e2 : (ofF (sor q1.2.2.2.length (ttF 0 (nI (gcL q1.2.2.2)) q1)) q1.2.2.2.length).getD k (0, 0, 0) = (ofF (sor q1.2.2.2.length (ttF τ (nI (gcL q2.2.2.2)) q2)) q1.2.2.2.length).getD k (0, 0, 0) := e1
      rw [ofF_get _ hk, ofF_get _ hk] at e2
      exact e2
theorem MA_iff (g1 : Geo q1.2.1.toInt q1.2.2.1.toInt q1.2.2.2) (g2 : Geo q2.2.1.toInt q2.2.2.1.toInt q2.2.2.2) {τ : Nat} : MA q1 q2 τ ↔ (hZ τ (q1.2.1 / nI (gcL q1.2.2.2)).toInt (q1.2.2.1 / nI (gcL q1.2.2.2)).toInt * (q2.2.1 / nI (gcL q2.2.2.2)).toInt = (q2.2.2.1 / nI (gcL q2.2.2.2)).toInt * wZ τ (q1.2.1 / nI (gcL q1.2.2.2)).toInt (q1.2.2.1 / nI (gcL q1.2.2.2)).toInt ∧
    ∀ z ∈ ((q1.2.2.2.map (dvQ (nI (gcL q1.2.2.2)))).map toZ).map (tnZ τ (q1.2.1 / nI (gcL q1.2.2.2)).toInt (q1.2.2.1 / nI (gcL q1.2.2.2)).toInt), ∃ z' ∈ (q2.2.2.2.map (dvQ (nI (gcL q2.2.2.2)))).map toZ, z.1 * (q2.2.1 / nI (gcL q2.2.2.2)).toInt = z'.1 * wZ τ (q1.2.1 / nI (gcL q1.2.2.2)).toInt (q1.2.2.1 / nI (gcL q1.2.2.2)).toInt ∧ z.2.1 * (q2.2.1 / nI (gcL q2.2.2.2)).toInt = z'.2.1 * wZ τ (q1.2.1 / nI (gcL q1.2.2.2)).toInt (q1.2.2.1 / nI (gcL q1.2.2.2)).toInt ∧ z.2.2 * (q2.2.1 / nI (gcL q2.2.2.2)).toInt = z'.2.2 * wZ τ (q1.2.1 / nI (gcL q1.2.2.2)).toInt (q1.2.2.1 / nI (gcL q1.2.2.2)).toInt) := by
  obtain ⟨k1, k2, k3, k4, k5, k6, k7⟩ := lst_of g1
  obtain ⟨l1, l2, l3, l4, l5, l6, l7⟩ := lst_of g2
  revert k1 k2 k3 k4 l1 l2 l3 l4
  generalize (q1.2.1 / nI (gcL q1.2.2.2)).toInt = u1
  generalize (q1.2.2.1 / nI (gcL q1.2.2.2)).toInt = v1
  generalize (q2.2.1 / nI (gcL q2.2.2.2)).toInt = u2
  generalize (q2.2.2.1 / nI (gcL q2.2.2.2)).toInt = v2
  generalize ((gcL q1.2.2.2 : Nat) : Int) = d1
  generalize ((gcL q2.2.2.2 : Nat) : Int) = d2
  intro k1 k2 k3 k4 l1 l2 l3 l4
  have W : (ttW τ q1).toInt = wZ τ u1 v1 * d1 := by
    unfold ttW wZ
    split
    · exact k3
    · exact k2
  have H : (ttH τ q1).toInt = hZ τ u1 v1 * d1 := by
    unfold ttH hZ
    split
    · exact k2
    · exact k3
  have cc : ∀ {a b c e : Int}, a * d1 * (b * d2) = c * d2 * (e * d1) ↔ a * b = c * e := fun {a b c e} => by
    rw [show a * d1 * (b * d2) = (a * b) * (d1 * d2) by grind, show c * d2 * (e * d1) = (c * e) * (d1 * d2) by grind]
    have : d1 * d2 ≠ 0 := Int.ne_of_gt (Int.mul_pos (by omega) (by omega))
    exact ⟨fun h => Int.eq_of_mul_eq_mul_right this h, fun h => by rw [h]⟩
  have p1 : ∀ p ∈ q1.2.2.2, toZ p = ((toZ (dvQ (nI (gcL q1.2.2.2)) p)).1 * d1, (toZ (dvQ (nI (gcL q1.2.2.2)) p)).2.1 * d1, (toZ (dvQ (nI (gcL q1.2.2.2)) p)).2.2 * d1) := by
    rw [List.map_map, List.map_map] at k4
    exact List.map_inj_left.mp k4
  have p2 : ∀ p ∈ q2.2.2.2, toZ p = ((toZ (dvQ (nI (gcL q2.2.2.2)) p)).1 * d2, (toZ (dvQ (nI (gcL q2.2.2.2)) p)).2.1 * d2, (toZ (dvQ (nI (gcL q2.2.2.2)) p)).2.2 * d2) := by
    rw [List.map_map, List.map_map] at l4
    exact List.map_inj_left.mp l4
  have t1 : ∀ p ∈ q1.2.2.2, toZ (tnQ τ q1.2.1 q1.2.2.1 p) = ((tnZ τ u1 v1 (toZ (dvQ (nI (gcL q1.2.2.2)) p))).1 * d1, (tnZ τ u1 v1 (toZ (dvQ (nI (gcL q1.2.2.2)) p))).2.1 * d1, (tnZ τ u1 v1 (toZ (dvQ (nI (gcL q1.2.2.2)) p))).2.2 * d1) := by
    intro p hp
    rw [tn_Z g1 τ hp, p1 p hp, k2, k3, tnZ_mul]
  have gk : ∀ {L : List Sq} {k : Nat} (h : k < L.length), sqF L k = L[k] := fun {L k} h => q_getD h
  unfold MA
  rw [W, H, l2, l3]
  refine and_congr cc ?_
  constructor
  · intro hk z hz
    obtain ⟨z0, hz0, rfl⟩ := List.mem_map.mp hz
    obtain ⟨p0, hp0, rfl⟩ := List.mem_map.mp hz0
    obtain ⟨p, hp, rfl⟩ := List.mem_map.mp hp0
    obtain ⟨k, hkl, rfl⟩ := List.getElem_of_mem hp
    obtain ⟨i, hi, a, b, c⟩ := hk k hkl
    rw [gk hkl] at a b c
    have hm : q2.2.2.2[i] ∈ q2.2.2.2 := List.getElem_mem hi
    have e := t1 _ hp
    have x1 : (tnQ τ q1.2.1 q1.2.2.1 q1.2.2.2[k]).1.toInt = _ := congrArg (fun x : Sz => x.1) e
    have x2 : (tnQ τ q1.2.1 q1.2.2.1 q1.2.2.2[k]).2.1.toInt = _ := congrArg (fun x : Sz => x.2.1) e
    have x3 : (tnQ τ q1.2.1 q1.2.2.1 q1.2.2.2[k]).2.2.toInt = _ := congrArg (fun x : Sz => x.2.2) e
    have f := p2 _ hm
    have y1 : (q2.2.2.2[i]).1.toInt = _ := congrArg (fun x : Sz => x.1) f
    have y2 : (q2.2.2.2[i]).2.1.toInt = _ := congrArg (fun x : Sz => x.2.1) f
    have y3 : (q2.2.2.2[i]).2.2.toInt = _ := congrArg (fun x : Sz => x.2.2) f
    have eX : qX q2.2.2.2 i = (q2.2.2.2[i]).1 := by unfold qX; rw [q_getD hi]
    have eY : qY q2.2.2.2 i = (q2.2.2.2[i]).2.1 := by unfold qY; rw [q_getD hi]
    have eS : qS q2.2.2.2 i = (q2.2.2.2[i]).2.2 := by unfold qS; rw [q_getD hi]
    rw [x1, eX, y1] at a
    rw [x2, eY, y2] at b
    rw [x3, eS, y3] at c
    exact ⟨_, List.mem_map.mpr ⟨_, List.mem_map.mpr ⟨_, hm, rfl⟩, rfl⟩, cc.mp a, cc.mp b, cc.mp c⟩
  · intro hz k hkl
    have hp : q1.2.2.2[k] ∈ q1.2.2.2 := List.getElem_mem hkl
    obtain ⟨z', hz', a, b, c⟩ := hz (tnZ τ u1 v1 (toZ (dvQ (nI (gcL q1.2.2.2)) q1.2.2.2[k]))) (List.mem_map.mpr ⟨_, List.mem_map.mpr ⟨_, List.mem_map.mpr ⟨_, hp, rfl⟩, rfl⟩, rfl⟩)
    obtain ⟨p0, hp0, rfl⟩ := List.mem_map.mp hz'
    obtain ⟨p, hpm, rfl⟩ := List.mem_map.mp hp0
    obtain ⟨i, hi, rfl⟩ := List.getElem_of_mem hpm
    have e := t1 _ hp
    have x1 : (tnQ τ q1.2.1 q1.2.2.1 q1.2.2.2[k]).1.toInt = _ := congrArg (fun x : Sz => x.1) e
    have x2 : (tnQ τ q1.2.1 q1.2.2.1 q1.2.2.2[k]).2.1.toInt = _ := congrArg (fun x : Sz => x.2.1) e
    have x3 : (tnQ τ q1.2.1 q1.2.2.1 q1.2.2.2[k]).2.2.toInt = _ := congrArg (fun x : Sz => x.2.2) e
    have f := p2 _ hpm
    have y1 : (q2.2.2.2[i]).1.toInt = _ := congrArg (fun x : Sz => x.1) f
    have y2 : (q2.2.2.2[i]).2.1.toInt = _ := congrArg (fun x : Sz => x.2.1) f
    have y3 : (q2.2.2.2[i]).2.2.toInt = _ := congrArg (fun x : Sz => x.2.2) f
    have eX : qX q2.2.2.2 i = (q2.2.2.2[i]).1 := by unfold qX; rw [q_getD hi]
    have eY : qY q2.2.2.2 i = (q2.2.2.2[i]).2.1 := by unfold qY; rw [q_getD hi]
    have eS : qS q2.2.2.2 i = (q2.2.2.2[i]).2.2 := by unfold qS; rw [q_getD hi]
    rw [gk hkl]
    refine ⟨i, hi, ?_, ?_, ?_⟩
    · rw [x1, eX, y1]; exact cc.mpr a
    · rw [x2, eY, y2]; exact cc.mpr b
    · rw [x3, eS, y3]; exact cc.mpr c
theorem al_same (g1 : Geo q1.2.1.toInt q1.2.2.1.toInt q1.2.2.2) (g2 : Geo q2.2.1.toInt q2.2.2.1.toInt q2.2.2.2) (hn : q1.2.2.2.length = q2.2.2.2.length) : (∃ τ, τ < 8 ∧ CA q1 q2 τ) ↔ ∃ τ, τ < 8 ∧ MA q1 q2 τ := by
  obtain ⟨k1, k2, k3, k4, k5, k6, k7⟩ := lst_of g1
  obtain ⟨l1, l2, l3, l4, l5, l6, l7⟩ := lst_of g2
  have P1 := geo_pos (geo_div g1)
  have P2 := geo_pos (geo_div g2)
  constructor
  · rintro ⟨τ, h8, h⟩
    refine ⟨bkT τ, bkT_lt h8, ?_⟩
    obtain ⟨a, b, c⟩ := (CA_iff g1 g2 hn h8).mp h
    rw [MA_iff g1 g2]
    obtain ⟨w1, w2⟩ := wZ_bk h8 (q2.2.1 / nI (gcL q2.2.2.2)).toInt (q2.2.2.1 / nI (gcL q2.2.2.2)).toInt
    rw [a, b, w1, w2]
    refine ⟨rfl, fun z hz => ?_⟩
    obtain ⟨z1, hz1, rfl⟩ := List.mem_map.mp hz
    obtain ⟨z2, hz2, rfl⟩ := List.mem_map.mp ((c z1).mp hz1)
    rw [tnZ_bk h8]
    exact ⟨z2, hz2, rfl, rfl, rfl⟩
  · rintro ⟨τ, h8, h⟩
    refine ⟨bkT τ, bkT_lt h8, ?_⟩
    obtain ⟨a, b⟩ := (MA_iff g1 g2).mp h
    rw [CA_iff g1 g2 hn (bkT_lt h8)]
    have gt := geoZ_turn h8 k5
    have uW : 1 ≤ wZ τ (q1.2.1 / nI (gcL q1.2.2.2)).toInt (q1.2.2.1 / nI (gcL q1.2.2.2)).toInt := by
      unfold wZ
      split <;> omega
    obtain ⟨e1, e2, e3⟩ := prop_same gt l5 (by rw [List.length_map]; exact k6) (fun c hc => k7 c (fun z hz => by
      have := hc (tnZ τ _ _ z) (List.mem_map.mpr ⟨z, hz, rfl⟩)
      rw [tnZ_s] at this
      exact this)) l7 ⟨uW, P2.1⟩ a b
    obtain ⟨w1, w2⟩ := wZ_bk h8 (q1.2.1 / nI (gcL q1.2.2.2)).toInt (q1.2.2.1 / nI (gcL q1.2.2.2)).toInt
    rw [← e1, ← e2, w1, w2]
    refine ⟨rfl, rfl, fun z => ?_⟩
    constructor
    · intro hz
      refine List.mem_map.mpr ⟨tnZ τ _ _ z, (e3 _).mp (List.mem_map.mpr ⟨z, hz, rfl⟩), tnZ_bk h8 _ _ z⟩
    · intro hz
      obtain ⟨z2, hz2, rfl⟩ := List.mem_map.mp hz
      obtain ⟨z1, hz1, rfl⟩ := List.mem_map.mp ((e3 z2).mpr hz2)
      rw [tnZ_bk h8]
      exact hz1
end
