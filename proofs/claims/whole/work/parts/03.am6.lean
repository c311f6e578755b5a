/-! arrays of arrays, and the copy of a stretch of ints -/
/-- new T[n][m]: the outer one first, then its rows -/
def am_mna (M : am_Mem) (ko ki N K : Nat) : am_Mem := (am_n M + 1 + N, fun a => if a = am_n M + 1 then ko else if am_n M + 1 < a ∧ a ≤ am_n M + 1 + N then ki else am_K M a, fun a => if a = am_n M + 1 then N else if am_n M + 1 < a ∧ a ≤ am_n M + 1 + N then K else am_L M a,
  fun a => if am_n M < a ∧ a ≤ am_n M + 1 + N then fun _ => 0 else am_I M a, fun a => if am_n M < a ∧ a ≤ am_n M + 1 + N then fun _ => 0 else am_J M a, fun a => if a = am_n M + 1 then fun j => if j < N then am_n M + 2 + j else 0 else if am_n M + 1 < a ∧ a ≤ am_n M + 1 + N then fun _ => 0 else am_R M a)
theorem am_outer (c : ClassId) (N h0 : Nat) : ∀ i : Nat, Jvm.Free.Multi.outerC c N h0 i = arrV c N (fun j => va_rf (if j < i then some (h0 + 1 + j) else none))
  | 0 => by
    show ({ cls := c, slots := Array.replicate N .null, vm := .none } : Cell) = _
    rw [arrV_new]
    refine congrArg (arrV c N) (funext fun j => ?_)
    simp [va_rf]
  | i + 1 => by
    show (Jvm.Free.Multi.outerC c N h0 i).setSlot i (.ref (h0 + 1 + i)) = _
    rw [am_outer c N h0 i, arrV_store]
    refine congrArg (arrV c N) (funext fun j => ?_)
    by_cases e : j = i
    · subst e
      simp [updV, va_rf]
    · by_cases h : j < i
      · simp [updV, e, h, Nat.lt_succ_of_lt h]
      · simp [updV, e, h, show ¬ j < i + 1 by omega]
theorem am_outer2 {B m N j : Nat} (hj : j < N) : va_rf (if j < N then some (B + (m + 1) + 1 + j) else none) = va_rf (am_ro B (if j < N then m + 2 + j else 0)) := by
  rw [if_pos hj, if_pos hj]
  unfold am_ro
  rw [if_neg (by omega)]
  exact congrArg (fun q => va_rf (some q)) (by omega)
theorem am_arrV_congr {c : ClassId} {N : Nat} {f g : Nat → Value} (h : ∀ j, j < N → f j = g j) : arrV c N f = arrV c N g := by
  unfold arrV
  have e : (Array.ofFn (n := N) fun j => f j.val) = Array.ofFn (n := N) fun j => g j.val := congrArg Array.ofFn (funext fun j => h j.val j.isLt)
  rw [e]
theorem am_mna_K {M : am_Mem} {ko ki N K a : Nat} (h1 : am_n M + 1 < a) (h2 : a ≤ am_n M + 1 + N) : am_K (am_mna M ko ki N K) a = ki := by
  show (if a = am_n M + 1 then ko else if am_n M + 1 < a ∧ a ≤ am_n M + 1 + N then ki else am_K M a) = ki
  rw [if_neg (by omega), if_pos ⟨h1, h2⟩]
theorem am_mna_L {M : am_Mem} {ko ki N K a : Nat} (h1 : am_n M + 1 < a) (h2 : a ≤ am_n M + 1 + N) : am_L (am_mna M ko ki N K) a = K := by
  show (if a = am_n M + 1 then N else if am_n M + 1 < a ∧ a ≤ am_n M + 1 + N then K else am_L M a) = K
  rw [if_neg (by omega), if_pos ⟨h1, h2⟩]
theorem am_H.mna {B : Nat} {H0 : Heap} {D : va_G} {cy : Nat → ClassId} {M : am_Mem} {ko ki N K : Nat} {H F : Heap} (h : am_H B H0 D cy M H) (z : F.size = H.size + 1 + N) (o : ∀ q : Nat, q < H.size → F[q]? = H[q]?) (h1 : am_at B D cy (am_mna M ko ki N K) (am_n M + 1) F)
    (h2 : ∀ a, am_n M + 1 < a → a ≤ am_n M + 1 + N → am_at B D cy (am_mna M ko ki N K) a F) : am_H B H0 D cy (am_mna M ko ki N K) F := by
  obtain ⟨g1, g2, g3, g4⟩ := h
  refine ⟨by rw [z, g1]; show _ = B + 1 + (am_n M + 1 + N); omega, fun q hq => by rw [o q (by omega)]; exact g2 q hq, fun a h5 h6 => ?_, fun a h5 => ?_⟩
  · have h6' : a ≤ am_n M + 1 + N := h6
    rcases Nat.lt_trichotomy a (am_n M + 1) with hb | hb | hb
    · have eK : am_K (am_mna M ko ki N K) a = am_K M a := by
        show (if a = am_n M + 1 then ko else if am_n M + 1 < a ∧ a ≤ am_n M + 1 + N then ki else am_K M a) = _
        rw [if_neg (by omega), if_neg (by omega)]
      have eL : am_L (am_mna M ko ki N K) a = am_L M a := by
        show (if a = am_n M + 1 then N else if am_n M + 1 < a ∧ a ≤ am_n M + 1 + N then K else am_L M a) = _
        rw [if_neg (by omega), if_neg (by omega)]
      have eI : am_I (am_mna M ko ki N K) a = am_I M a := by
        show (if am_n M < a ∧ a ≤ am_n M + 1 + N then fun _ => 0 else am_I M a) = _
        rw [if_neg (by omega)]
      have eJ : am_J (am_mna M ko ki N K) a = am_J M a := by
        show (if am_n M < a ∧ a ≤ am_n M + 1 + N then fun _ => 0 else am_J M a) = _
        rw [if_neg (by omega)]
      have eR : am_R (am_mna M ko ki N K) a = am_R M a := by
        show (if a = am_n M + 1 then fun j => if j < N then am_n M + 2 + j else 0 else if am_n M + 1 < a ∧ a ≤ am_n M + 1 + N then fun _ => 0 else am_R M a) = _
        rw [if_neg (by omega), if_neg (by omega)]
      exact am_at_same eK eL eI eJ eR (o _ (by omega)) (g3 a h5 (by omega))
    · rw [hb]; exact h1
    · exact h2 a hb h6'
  · have h5' : a = 0 ∨ am_n M + 1 + N < a := h5
    show (if a = am_n M + 1 then ko else if am_n M + 1 < a ∧ a ≤ am_n M + 1 + N then ki else am_K M a) = 99
    rw [if_neg (by omega), if_neg (by omega)]
    exact g4 a (by omega)
section AMX
variable {l : Launch} {R : Room} {y : MethodName} {cc : ByteArray} {nL : Nat} {ret : Option FieldType} {ov : Option am_A} {M' : am_Mem} {mc ms : Nat} {G : am_G} {pc : Nat} {lv : List (Nat × am_A)} {st : List am_A} {M : am_Mem} {k n : Nat}
theorem am_alen15 (cx : am_Ctx l R y cc nL ret ov M' mc ms G) {r : Nat} (hd : decode cc pc = .ok (.arraylength, 1)) (hk : am_K M r = 15) (kk : G (pc + 1) lv (.inl (Int32.ofNat (am_L M r)) :: st) M k n) : G pc lv (.inr (.inr (.inl r)) :: st) M k n := by
  obtain ⟨p, e, s, m, args, below, meth, c, B, ad, H0, D, cy, Q, rfl, hQ, hx, hb, hml, hown, hT, hK, hr, hlk, hnm⟩ := cx
  intro H locs ls hH hL hl
  have hpos := hH.lives (r := r) (by rw [hk]; decide)
  have h1 := hH.2.2.1 r hpos.1 hpos.2
  rw [am_at_arr hk (by decide)] at h1
  show W p l e R s m args below meth c H locs k n _ (F0 m pc ls (am_rv B r :: st.map (am_v B ad)))
  rw [am_rv_pos B hpos.1]
  exact W.alen (n := Int32.ofNat (am_L M r)) hx hb h1 ((hK.2 2 _ rfl).1 (am_L M r) (fun j => .long (am_J M r j))) (by show ((arrV _ _ _).slots.size).toInt32 = _; rw [arrV_size]) rfl rfl hd (kk H locs ls hH hL hl)
theorem am_mnaI (cx : am_Ctx l R y cc nL ret ov M' mc ms G) {i j : Int32} {idx : Nat} (N K : Nat) (hN : i.toNatClampNeg = N) (hK2 : j.toNatClampNeg = K) (hi : ¬ i < 0) (hj : ¬ j < 0) (hNK : N ≤ 1000 ∧ K ≤ 1000) (hd : decode cc pc = .ok (.multianewarray idx 2, 4)) (hw1 : am_w (.classLink y.cls idx ("[" ++ (FieldType.array .int).toString))) (hw2 : Cond.arrayOver (.array .int) ∈ lw_tbl) (hw3 : am_w (.arrayClass .int))
    (hc : k + (1 + N) ≤ R.cells) (hs : n + (N + N * K) ≤ R.slots) (kk : G (pc + 4) lv (.inr (.inr (.inl (am_n M + 1))) :: st) (am_mna M 19 14 N K) (k + 1 + N) (n + N + N * K)) : G pc lv (.inl j :: .inl i :: st) M k n := by
  obtain ⟨p, e, s, m, args, below, meth, c, B, ad, H0, D, cy, Q, rfl, hQ, hx, hb, hml, hown, hT, hK, hr, hlk, hnm⟩ := cx
  intro H locs ls hH hL hl
  subst hN
  subst hK2
  intro T hTT Xs
  have hz := hH.1
  obtain ⟨vm₁, cA, comp, -, fA, fC, hO, -, X', step⟩ := Xs.multianewarray2F hx hown (hT.1 _ hw1 args) (hT.2.2.2.1 _ hw2 args) (hT.1 _ hw3 args) (g := F0 m pc ls (.int j :: .int i :: st.map (am_v B ad))) rfl (by rw [hb]; exact hd) rfl hi hj (by omega) (Nat.le_trans (Nat.mul_le_mul hNK.2 (show componentBytes .int ≤ 8 by decide)) (by decide)) (by omega) rfl rfl hc hs
  have e1 : cA = cy 19 := Option.some.inj (fA.symm.trans (hK.2 6 _ rfl).2)
  have e2 : comp = cy 14 := Option.some.inj (fC.symm.trans (hK.2 1 _ rfl).2)
  subst e1
  subst e2
  generalize hF : Jvm.Free.Multi.fill (T.setVm vm₁) (cy 19) (cy 14) i.toNatClampNeg j.toNatClampNeg (defaultValue .int) i.toNatClampNeg = F at X' step
  have hTh : (T.setVm vm₁).heap = H := hTT
  obtain ⟨f1, f2, -, -⟩ := Jvm.Free.Multi.fill_facts (T.setVm vm₁) (cy 19) (cy 14) i.toNatClampNeg j.toNatClampNeg (defaultValue .int) i.toNatClampNeg
  rw [hF, hTh] at f1 f2
  have hold : ∀ q : Nat, q < H.size → F.heap[q]? = H[q]? := fun q hq => by
    have := Jvm.Free.Multi.fill_old (T.setVm vm₁) (cy 19) (cy 14) i.toNatClampNeg j.toNatClampNeg (defaultValue .int) (a := q) (by rw [hTh]; exact hq) i.toNatClampNeg
    rw [hF, hTh] at this
    exact this
  have hrow : ∀ q : Nat, q < i.toNatClampNeg → F.heap[H.size + 1 + q]? = some (Jvm.Free.Multi.innerC (cy 14) j.toNatClampNeg (defaultValue .int)) := fun q hq => by
    have := Jvm.Free.Multi.fill_inner (T.setVm vm₁) (cy 19) (cy 14) i.toNatClampNeg j.toNatClampNeg (defaultValue .int) i.toNatClampNeg q hq
    rw [hF, hTh] at this
    exact this
  have hk := kk F.heap locs ls (hH.mna f1 hold ?_ ?_) hL hl
  · have e3 : am_rv B (am_n M + 1) = .ref H.size := by rw [am_rv_pos B (by omega), show B + (am_n M + 1) = H.size by omega]
    have hk2 : W p l e R s m args below meth c F.heap locs (k + 1 + i.toNatClampNeg) (n + i.toNatClampNeg + i.toNatClampNeg * j.toNatClampNeg) _ (F0 m (pc + 4) ls (am_rv B (am_n M + 1) :: st.map (am_v B ad))) := hk
    rw [e3] at hk2
    obtain ⟨t2, a1, b1⟩ := hk2 F rfl X'
    rw [← hTT] at a1
    exact ⟨t2, step t2 a1, b1⟩
  · have hkd : am_K (am_mna M 19 14 i.toNatClampNeg j.toNatClampNeg) (am_n M + 1) = 19 := if_pos rfl
    have hln : am_L (am_mna M 19 14 i.toNatClampNeg j.toNatClampNeg) (am_n M + 1) = i.toNatClampNeg := if_pos rfl
    have hrw : am_R (am_mna M 19 14 i.toNatClampNeg j.toNatClampNeg) (am_n M + 1) = fun q => if q < i.toNatClampNeg then am_n M + 2 + q else 0 := if_pos rfl
    rw [am_at_arr hkd (by decide), hln, show B + (am_n M + 1) = H.size by omega, f2]
    refine congrArg some ?_
    show _ = arrV (cy 19) i.toNatClampNeg (fun q => va_rf (am_ro B (am_R (am_mna M 19 14 i.toNatClampNeg j.toNatClampNeg) (am_n M + 1) q)))
    rw [hrw, am_outer]
    refine am_arrV_congr (fun q hq => ?_)
    rw [show H.size = B + (am_n M + 1) by omega]
    exact am_outer2 hq
  · intro a h1 h2
    have hkd : am_K (am_mna M 19 14 i.toNatClampNeg j.toNatClampNeg) a = 14 := am_mna_K h1 h2
    have hln : am_L (am_mna M 19 14 i.toNatClampNeg j.toNatClampNeg) a = j.toNatClampNeg := am_mna_L h1 h2
    have hrw : am_I (am_mna M 19 14 i.toNatClampNeg j.toNatClampNeg) a = fun _ => 0 := if_pos ⟨by omega, h2⟩
    have hq := hrow (a - (am_n M + 2)) (by omega)
    rw [show H.size + 1 + (a - (am_n M + 2)) = B + a by omega] at hq
    rw [am_at_arr hkd (by decide), hln, hq]
    show _ = some (vp_cell (cy 14) (j.toNatClampNeg, .inl (am_I (am_mna M 19 14 i.toNatClampNeg j.toNatClampNeg) a)))
    rw [hrw]
    refine congrArg some ?_
    show ({ cls := cy 14, slots := Array.replicate j.toNatClampNeg (defaultValue .int), vm := .none } : Cell) = _
    rw [arrV_new]
    rfl
theorem am_mnaJ (cx : am_Ctx l R y cc nL ret ov M' mc ms G) {i j : Int32} {idx : Nat} (N K : Nat) (hN : i.toNatClampNeg = N) (hK2 : j.toNatClampNeg = K) (hi : ¬ i < 0) (hj : ¬ j < 0) (hNK : N ≤ 1000 ∧ K ≤ 1000) (hd : decode cc pc = .ok (.multianewarray idx 2, 4)) (hw1 : am_w (.classLink y.cls idx ("[" ++ (FieldType.array .long).toString))) (hw2 : Cond.arrayOver (.array .long) ∈ lw_tbl) (hw3 : am_w (.arrayClass .long))
    (hc : k + (1 + N) ≤ R.cells) (hs : n + (N + N * K) ≤ R.slots) (kk : G (pc + 4) lv (.inr (.inr (.inl (am_n M + 1))) :: st) (am_mna M 20 15 N K) (k + 1 + N) (n + N + N * K)) : G pc lv (.inl j :: .inl i :: st) M k n := by
  obtain ⟨p, e, s, m, args, below, meth, c, B, ad, H0, D, cy, Q, rfl, hQ, hx, hb, hml, hown, hT, hK, hr, hlk, hnm⟩ := cx
  intro H locs ls hH hL hl
  subst hN
  subst hK2
  intro T hTT Xs
  have hz := hH.1
  obtain ⟨vm₁, cA, comp, -, fA, fC, hO, -, X', step⟩ := Xs.multianewarray2F hx hown (hT.1 _ hw1 args) (hT.2.2.2.1 _ hw2 args) (hT.1 _ hw3 args) (g := F0 m pc ls (.int j :: .int i :: st.map (am_v B ad))) rfl (by rw [hb]; exact hd) rfl hi hj (by omega) (Nat.le_trans (Nat.mul_le_mul hNK.2 (show componentBytes .long ≤ 8 by decide)) (by decide)) (by omega) rfl rfl hc hs
  have e1 : cA = cy 20 := Option.some.inj (fA.symm.trans (hK.2 7 _ rfl).2)
  have e2 : comp = cy 15 := Option.some.inj (fC.symm.trans (hK.2 2 _ rfl).2)
  subst e1
  subst e2
  generalize hF : Jvm.Free.Multi.fill (T.setVm vm₁) (cy 20) (cy 15) i.toNatClampNeg j.toNatClampNeg (defaultValue .long) i.toNatClampNeg = F at X' step
  have hTh : (T.setVm vm₁).heap = H := hTT
  obtain ⟨f1, f2, -, -⟩ := Jvm.Free.Multi.fill_facts (T.setVm vm₁) (cy 20) (cy 15) i.toNatClampNeg j.toNatClampNeg (defaultValue .long) i.toNatClampNeg
  rw [hF, hTh] at f1 f2
  have hold : ∀ q : Nat, q < H.size → F.heap[q]? = H[q]? := fun q hq => by
    have := Jvm.Free.Multi.fill_old (T.setVm vm₁) (cy 20) (cy 15) i.toNatClampNeg j.toNatClampNeg (defaultValue .long) (a := q) (by rw [hTh]; exact hq) i.toNatClampNeg
    rw [hF, hTh] at this
    exact this
  have hrow : ∀ q : Nat, q < i.toNatClampNeg → F.heap[H.size + 1 + q]? = some (Jvm.Free.Multi.innerC (cy 15) j.toNatClampNeg (defaultValue .long)) := fun q hq => by
    have := Jvm.Free.Multi.fill_inner (T.setVm vm₁) (cy 20) (cy 15) i.toNatClampNeg j.toNatClampNeg (defaultValue .long) i.toNatClampNeg q hq
    rw [hF, hTh] at this
    exact this
  have hk := kk F.heap locs ls (hH.mna f1 hold ?_ ?_) hL hl
  · have e3 : am_rv B (am_n M + 1) = .ref H.size := by rw [am_rv_pos B (by omega), show B + (am_n M + 1) = H.size by omega]
    have hk2 : W p l e R s m args below meth c F.heap locs (k + 1 + i.toNatClampNeg) (n + i.toNatClampNeg + i.toNatClampNeg * j.toNatClampNeg) _ (F0 m (pc + 4) ls (am_rv B (am_n M + 1) :: st.map (am_v B ad))) := hk
    rw [e3] at hk2
    obtain ⟨t2, a1, b1⟩ := hk2 F rfl X'
    rw [← hTT] at a1
    exact ⟨t2, step t2 a1, b1⟩
  · have hkd : am_K (am_mna M 20 15 i.toNatClampNeg j.toNatClampNeg) (am_n M + 1) = 20 := if_pos rfl
    have hln : am_L (am_mna M 20 15 i.toNatClampNeg j.toNatClampNeg) (am_n M + 1) = i.toNatClampNeg := if_pos rfl
    have hrw : am_R (am_mna M 20 15 i.toNatClampNeg j.toNatClampNeg) (am_n M + 1) = fun q => if q < i.toNatClampNeg then am_n M + 2 + q else 0 := if_pos rfl
    rw [am_at_arr hkd (by decide), hln, show B + (am_n M + 1) = H.size by omega, f2]
    refine congrArg some ?_
    show _ = arrV (cy 20) i.toNatClampNeg (fun q => va_rf (am_ro B (am_R (am_mna M 20 15 i.toNatClampNeg j.toNatClampNeg) (am_n M + 1) q)))
    rw [hrw, am_outer]
    refine am_arrV_congr (fun q hq => ?_)
    rw [show H.size = B + (am_n M + 1) by omega]
    exact am_outer2 hq
  · intro a h1 h2
    have hkd : am_K (am_mna M 20 15 i.toNatClampNeg j.toNatClampNeg) a = 15 := am_mna_K h1 h2
    have hln : am_L (am_mna M 20 15 i.toNatClampNeg j.toNatClampNeg) a = j.toNatClampNeg := am_mna_L h1 h2
    have hrw : am_J (am_mna M 20 15 i.toNatClampNeg j.toNatClampNeg) a = fun _ => 0 := if_pos ⟨by omega, h2⟩
    have hq := hrow (a - (am_n M + 2)) (by omega)
    rw [show H.size + 1 + (a - (am_n M + 2)) = B + a by omega] at hq
    rw [am_at_arr hkd (by decide), hln, hq]
    show _ = some (vp_cell (cy 15) (j.toNatClampNeg, .inr (.inl (am_J (am_mna M 20 15 i.toNatClampNeg j.toNatClampNeg) a))))
    rw [hrw]
    refine congrArg some ?_
    show ({ cls := cy 15, slots := Array.replicate j.toNatClampNeg (defaultValue .long), vm := .none } : Cell) = _
    rw [arrV_new]
    rfl
/-- the row d with n ints from sp of f laid at dp -/
def am_cpy (M : am_Mem) (a0 a1 sp dp n : Nat) : am_Mem := (am_n M, am_K M, am_L M, am_u1 (am_I M) a1 (va_cpy (am_I M a0) (am_I M a1) sp dp n), am_J M, am_R M)
theorem am_copyI (cx : am_Ctx l R y cc nL ret ov M' mc ms G) {a0 a1 idx : Nat} {sp dp i : Int32} (hd : decode cc pc = .ok (.invokestatic idx, 3)) (h1 : am_w (.methodLink y.cls idx arraycopyName)) (h2 : am_w (.native arraycopyName)) (h3 : am_w (.static arraycopyName)) (h4 : am_w (.initialized "java/lang/System")) (hk0 : am_K M a0 = 14) (hk1 : am_K M a1 = 14) (hs : am_cnt sp (am_L M a0) = true) (hdp : am_cnt dp (am_L M a1) = true) (hi : am_cnt i (am_L M a0) = true)
    (hs2 : decide (sp.toNatClampNeg + i.toNatClampNeg ≤ am_L M a0) = true) (hd2 : decide (dp.toNatClampNeg + i.toNatClampNeg ≤ am_L M a1) = true) (hfr : 1 ≤ R.frames) (hlo : (st.map am_cat).sum + (nativeFrameWords "java/lang/System" "arraycopy" 5 + 11) ≤ R.locals)
    (kk : G (pc + 3) lv st (am_cpy M a0 a1 sp.toNatClampNeg dp.toNatClampNeg i.toNatClampNeg) k n) : G pc lv (.inl i :: .inl dp :: .inr (.inr (.inl a1)) :: .inl sp :: .inr (.inr (.inl a0)) :: st) M k n := by
  obtain ⟨p, e, s, m, args, below, meth, c, B, ad, H0, D, cy, Q, rfl, hQ, hx, hb, hml, hown, hT, hK, hr, hlk, hnm⟩ := cx
  intro H locs ls hH hL hl
  have p0 := hH.lives (r := a0) (by rw [hk0]; decide)
  have p1 := hH.lives (r := a1) (by rw [hk1]; decide)
  have c0 := hH.2.2.1 a0 p0.1 p0.2
  have c1 := hH.2.2.1 a1 p1.1 p1.2
  rw [am_at_arr hk0 (by decide)] at c0
  rw [am_at_arr hk1 (by decide)] at c1
  show W p l e R s m args below meth c H locs k n _ (F0 m pc ls (.int i :: .int dp :: am_rv B a1 :: .int sp :: am_rv B a0 :: st.map (am_v B ad)))
  rw [am_rv_pos B p0.1, am_rv_pos B p1.1]
  have nn : ∀ z : Int32, ¬ z < 0 → z.toInt = (z.toNatClampNeg : Int) := by
    intro z hz
    have hz0 : (0 : Int) ≤ z.toInt := by
      have := Int32.not_lt.mp hz
      simpa using Int32.le_iff_toInt_le.mp this
    show z.toInt = ((z.toInt.toNat : Nat) : Int)
    omega
  have g1 := (am_cnt_ok hs).1
  have g2 := (am_cnt_ok hdp).1
  have g3 := (am_cnt_ok hi).1
  have g4 := of_decide_eq_true hs2
  have g5 := of_decide_eq_true hd2
  intro T hTT X
  have hc0 : H[B + a0]? = some (vp_cell (cy 14) (am_L M a0, .inl (am_I M a0))) := c0
  have hc1 : H[B + a1]? = some (vp_cell (cy 14) (am_L M a1, .inl (am_I M a1))) := c1
  obtain ⟨-, k0, hkk0, cm0, hkd0⟩ := (hK.2 1 _ rfl).1 (am_L M a0) (fun j => .int (am_I M a0 j))
  obtain ⟨-, k1, hkk1, cm1, hkd1⟩ := (hK.2 1 _ rfl).1 (am_L M a1) (fun j => .int (am_I M a1 j))
  obtain ⟨vm', X', step⟩ := X.arraycopy hx hown (hT.1 _ h1 args) (hT.1 _ h2 args) (hT.1 _ h3 args) (hT.1 _ h4 args) (src := B + a0) (dst := B + a1) (cs := vp_cell (cy 14) (am_L M a0, .inl (am_I M a0))) (cd := vp_cell (cy 14) (am_L M a1, .inl (am_I M a1))) (srcPos := sp) (destPos := dp) (n := i) (by rw [hTT]; exact hc0) (by rw [hTT]; exact hc1)
    (fun _ h => by cases h) (fun _ h => by cases h) (fun h => by cases h) (fun h => by cases h) hkk0 hkk1 hkd0 hkd1 (by simp [show refKind .int = false from rfl]) g1 g2 g3
    (by rw [nn sp g1, nn i g3]; show ¬ _ > ((arrV (cy 14) (am_L M a0) (fun j => .int (am_I M a0 j))).slots.size : Int); rw [arrV_size]; omega)
    (by rw [nn dp g2, nn i g3]; show ¬ _ > ((arrV (cy 14) (am_L M a1) (fun j => .int (am_I M a1 j))).slots.size : Int); rw [arrV_size]; omega)
    (fun vm₁ _ q hq => by
      have e : (vp_cell (cy 14) (am_L M a0, .inl (am_I M a0))).slots.getD (sp.toNatClampNeg + q) .null = .int (am_I M a0 (sp.toNatClampNeg + q)) := by
        show (arrV (cy 14) (am_L M a0) (fun j => .int (am_I M a0 j))).slots.getD _ _ = _
        rw [Array.getD_eq_getD_getElem?, arrV_read _ _ (by omega)]
        rfl
      refine ⟨?_, ?_⟩
      · rw [e]
        rfl
      · rw [e]
        exact trivial)
    (g := F0 m pc ls (.int i :: .int dp :: .ref (B + a1) :: .int sp :: .ref (B + a0) :: st.map (am_v B ad))) rfl (hl.1.trans hml.symm) (rest := st.map (am_v B ad)) rfl (by rw [hb]; exact hd) hfr (by show 2 * 0 + _ + _ ≤ _; rw [am_rcat]; omega)
  have e1 : copied (vp_cell (cy 14) (am_L M a0, .inl (am_I M a0))) (vp_cell (cy 14) (am_L M a1, .inl (am_I M a1))) sp dp i = vp_cell (cy 14) (am_L M a1, .inl (va_cpy (am_I M a0) (am_I M a1) sp.toNatClampNeg dp.toNatClampNeg i.toNatClampNeg)) := va_copied (fun z => .int z) (cy 14) (cy 14) (am_I M a0) (am_I M a1) g4
  rw [e1] at X' step
  have hlt : B + a1 < H.size := (Array.getElem?_eq_some_iff.mp hc1).1
  have hheap : ((T.setVm vm').setCell (B + a1) (vp_cell (cy 14) (am_L M a1, .inl (va_cpy (am_I M a0) (am_I M a1) sp.toNatClampNeg dp.toNatClampNeg i.toNatClampNeg)))).heap = H.setIfInBounds (B + a1) (vp_cell (cy 14) (am_L M a1, .inl (va_cpy (am_I M a0) (am_I M a1) sp.toNatClampNeg dp.toNatClampNeg i.toNatClampNeg))) := by rw [← hTT]; rfl
  have hM2 : am_H B H0 D cy (am_cpy M a0 a1 sp.toNatClampNeg dp.toNatClampNeg i.toNatClampNeg) (H.setIfInBounds (B + a1) (vp_cell (cy 14) (am_L M a1, .inl (va_cpy (am_I M a0) (am_I M a1) sp.toNatClampNeg dp.toNatClampNeg i.toNatClampNeg)))) := by
    refine hH.put (r := a1) rfl rfl rfl (fun b h => am_u1_ne _ _ h) (fun b h => rfl) (fun b h => rfl) p1.1 (by simp) (fun q hq => by simp [Array.getElem?_setIfInBounds, Ne.symm hq]) ?_
    have hkd : am_K (am_cpy M a0 a1 sp.toNatClampNeg dp.toNatClampNeg i.toNatClampNeg) a1 = 14 := hk1
    have hrw : am_I (am_cpy M a0 a1 sp.toNatClampNeg dp.toNatClampNeg i.toNatClampNeg) a1 = va_cpy (am_I M a0) (am_I M a1) sp.toNatClampNeg dp.toNatClampNeg i.toNatClampNeg := am_u1_eq _ _ _
    rw [am_at_arr hkd (by decide)]
    show _ = some (vp_cell (cy 14) (am_L M a1, .inl (am_I (am_cpy M a0 a1 sp.toNatClampNeg dp.toNatClampNeg i.toNatClampNeg) a1)))
    rw [hrw]
    simp [Array.getElem?_setIfInBounds, hlt]
  obtain ⟨t, b1, b2⟩ := kk _ _ ls hM2 (fun q hq => by
    rcases List.mem_append.mp hq with h | h
    · exact hL q h
    · obtain ⟨z, -, hz⟩ := List.mem_map.mp h
      rw [← hz]
      show B < B + a1
      omega) hl _ hheap X'
  exact ⟨t, step t b1, b2⟩
end AMX
