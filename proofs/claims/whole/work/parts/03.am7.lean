/-! rows over what was there before: texts, their bytes, statics -/
def am_sL (q : Nat) : Nat := am_sle.getD (q - 8) 0
def am_sB (q j : Nat) : Int32 := (am_sby.getD (q - 8) []).getD j 0
def am_isS (q : Nat) : Bool := decide (q < 7)
def am_isB (q : Nat) : Bool := decide (8 ≤ q) && decide (q < 15)
theorem am_sle_lt : ∀ i : Nat, am_sle.getD i 0 < 100 := by
  intro i
  by_cases h : i < 7
  · have : ∀ j : Fin 7, am_sle.getD j 0 < 100 := by decide
    exact this ⟨i, h⟩
  · rw [List.getD_eq_getElem?_getD, List.getElem?_eq_none (by show 7 ≤ i; omega)]
    decide
theorem am_old {B : Nat} {H0 : Heap} {D : va_G} {cy : Nat → ClassId} {M : am_Mem} {H : Heap} (h : am_H B H0 D cy M H) : ∀ a : Nat, a < H0.size → ¬ (fun q => B < q) a → H[a]? = H0[a]? := fun a _ hb => h.2.1 a (Nat.not_lt.mp hb)
section AMS
variable {l : Launch} {R : Room} {y : MethodName} {cc : ByteArray} {nL : Nat} {ret : Option FieldType} {ov : Option am_A} {M' : am_Mem} {mc ms : Nat} {G : am_G} {pc : Nat} {lv : List (Nat × am_A)} {st : List am_A} {M : am_Mem} {k n : Nat}
theorem am_aload_nS (cx : am_Ctx l R y cc nL ret ov M' mc ms G) {j : Fin 4} (q : Nat) {x : Nat} (hd : decode cc pc = .ok (.aload_n j, 1)) (hq : lv[q]? = some ((j : Nat), .inr (.inr (.inr x)))) (kk : G (pc + 1) lv (.inr (.inr (.inr x)) :: st) M k n) : G pc lv st M k n := by
  obtain ⟨p, e, s, m, args, below, meth, c, B, ad, H0, D, cy, Q, rfl, hQ, hx, hb, hml, hown, hT, hK, hr, hlk, hnm⟩ := cx
  intro H locs ls hH hL hl
  have h1 : ls[(j : Nat)]? = some (.val (va_rf (ad x))) := am_lat hl q hq
  have k1 : W p l e R s m args below meth c H locs k n _ (F0 m (pc + 1) ls (va_rf (ad x) :: st.map (am_v B ad))) := kk H locs ls hH hL hl
  cases h0 : ad x with
  | none =>
    rw [h0] at h1 k1
    exact lv_aload_nN hx hb hd rfl h1 k1
  | some a =>
    rw [h0] at h1 k1
    exact lv_aload_n hx hb hd rfl h1 k1
theorem am_aloadS (cx : am_Ctx l R y cc nL ret ov M' mc ms G) {j : Nat} (q : Nat) {x : Nat} (hd : decode cc pc = .ok (.aload j, 2)) (hq : lv[q]? = some (j, .inr (.inr (.inr x)))) (kk : G (pc + 2) lv (.inr (.inr (.inr x)) :: st) M k n) : G pc lv st M k n := by
  obtain ⟨p, e, s, m, args, below, meth, c, B, ad, H0, D, cy, Q, rfl, hQ, hx, hb, hml, hown, hT, hK, hr, hlk, hnm⟩ := cx
  intro H locs ls hH hL hl
  have h1 : ls[j]? = some (.val (va_rf (ad x))) := am_lat hl q hq
  have k1 : W p l e R s m args below meth c H locs k n _ (F0 m (pc + 2) ls (va_rf (ad x) :: st.map (am_v B ad))) := kk H locs ls hH hL hl
  cases h0 : ad x with
  | none =>
    rw [h0] at h1 k1
    exact lv_aloadN hx hb hd h1 k1
  | some a =>
    rw [h0] at h1 k1
    exact lv_aload hx hb hd h1 k1
theorem am_ldcS (cx : am_Ctx l R y cc nL ret ov M' mc ms G) {idx : Nat} (i : Nat) (hd : decode cc pc = .ok (.ldc idx, 2)) (hi : i < 7) (ho : am_so i = y.cls) (hx2 : am_si i = idx) (kk : G (pc + 2) lv (.inr (.inr (.inr i)) :: st) M k n) : G pc lv st M k n := by
  obtain ⟨p, e, s, m, args, below, meth, c, B, ad, H0, D, cy, Q, rfl, hQ, hx, hb, hml, hown, hT, hK, hr, hlk, hnm⟩ := cx
  intro H locs ls hH hL hl
  subst hx2
  obtain ⟨⟨adK, adV, h1, h2⟩, -⟩ := hT.2.2.2.2
  have hR := (h1 i hi).2.2
  rw [ho] at hR
  have k1 : W p l e R s m args below meth c H locs k n _ (F0 m (pc + 2) ls (va_rf (ad i) :: st.map (am_v B ad))) := kk H locs ls hH hL hl
  rw [(h1 i hi).1] at k1
  exact va_ldcS hx hb hown hR hd k1
theorem am_sval (cx : am_Ctx l R y cc nL ret ov M' mc ms G) {idx i : Nat} (hd : decode cc pc = .ok (.getfield idx, 3)) (hw : am_w (.fieldLink y.cls idx "java/lang/String" "value" "[B")) (hi : am_isS i = true) (kk : G (pc + 3) lv (.inr (.inr (.inr (8 + i))) :: st) M k n) : G pc lv (.inr (.inr (.inr i)) :: st) M k n := by
  obtain ⟨p, e, s, m, args, below, meth, c, B, ad, H0, D, cy, Q, rfl, hQ, hx, hb, hml, hown, hT, hK, hr, hlk, hnm⟩ := cx
  intro H locs ls hH hL hl
  obtain ⟨⟨adK, adV, h1, h2⟩, -⟩ := hT.2.2.2.2
  have hi := of_decide_eq_true hi
  obtain ⟨cf, kf, fi, f, cell, g1, g2, g3, g4, g5, g6⟩ := ((h2.1 i hi).2.2.1).kept (am_old hH)
  have k1 : W p l e R s m args below meth c H locs k n _ (F0 m (pc + 3) ls (va_rf (ad (8 + i)) :: st.map (am_v B ad))) := kk H locs ls hH hL hl
  rw [(h1 i hi).2.1] at k1
  show W p l e R s m args below meth c H locs k n _ (F0 m pc ls (va_rf (ad i) :: st.map (am_v B ad)))
  rw [(h1 i hi).1]
  exact W.getf hx hb hown (hT.1 _ hw args) g1 g2 g3 g4 (v := .ref (adV i)) g5 rfl rfl hd k1
theorem am_scod (cx : am_Ctx l R y cc nL ret ov M' mc ms G) {idx i : Nat} (hd : decode cc pc = .ok (.getfield idx, 3)) (hw : am_w (.fieldLink y.cls idx "java/lang/String" "coder" "B")) (hi : am_isS i = true) (kk : G (pc + 3) lv (.inl 0 :: st) M k n) : G pc lv (.inr (.inr (.inr i)) :: st) M k n := by
  obtain ⟨p, e, s, m, args, below, meth, c, B, ad, H0, D, cy, Q, rfl, hQ, hx, hb, hml, hown, hT, hK, hr, hlk, hnm⟩ := cx
  intro H locs ls hH hL hl
  obtain ⟨⟨adK, adV, h1, h2⟩, -⟩ := hT.2.2.2.2
  have hi := of_decide_eq_true hi
  obtain ⟨cf, kf, fi, f, cell, g1, g2, g3, g4, g5, g6⟩ := ((h2.1 i hi).2.1).kept (am_old hH)
  have k1 : W p l e R s m args below meth c H locs k n _ (F0 m (pc + 3) ls (.int 0 :: st.map (am_v B ad))) := kk H locs ls hH hL hl
  show W p l e R s m args below meth c H locs k n _ (F0 m pc ls (va_rf (ad i) :: st.map (am_v B ad)))
  rw [(h1 i hi).1]
  exact W.getf hx hb hown (hT.1 _ hw args) g1 g2 g3 g4 (v := .int 0) g5 rfl rfl hd k1
theorem am_sCOMPACT_STRINGS (cx : am_Ctx l R y cc nL ret ov M' mc ms G) {idx : Nat} (hd : decode cc pc = .ok (.getstatic idx, 3)) (hw : am_w (.fieldLink y.cls idx "java/lang/String" "COMPACT_STRINGS" "Z")) (kk : G (pc + 3) lv (.inl 1 :: st) M k n) : G pc lv st M k n := by
  obtain ⟨p, e, s, m, args, below, meth, c, B, ad, H0, D, cy, Q, rfl, hQ, hx, hb, hml, hown, hT, hK, hr, hlk, hnm⟩ := cx
  intro H locs ls hH hL hl
  obtain ⟨cf, kf, fi, f, a, cell, g1, g2, g3, g4, g5, g6, g7, g8⟩ := (hT.2.2.2.2.2.1).kept (am_old hH)
  exact W.gets hx hb hown (hT.1 _ hw args) g1 g2 g3 g4 g5 (fun e => by rw [e] at g6; cases g6) (v := .int 1) g7 rfl hd (kk H locs ls hH hL hl)
theorem am_sSIOOBE_FORMATTER (cx : am_Ctx l R y cc nL ret ov M' mc ms G) {idx : Nat} (hd : decode cc pc = .ok (.getstatic idx, 3)) (hw : am_w (.fieldLink y.cls idx "jdk/internal/util/Preconditions" "SIOOBE_FORMATTER" "Ljava/util/function/BiFunction;")) (kk : G (pc + 3) lv (.inr (.inr (.inr 15)) :: st) M k n) : G pc lv st M k n := by
  obtain ⟨p, e, s, m, args, below, meth, c, B, ad, H0, D, cy, Q, rfl, hQ, hx, hb, hml, hown, hT, hK, hr, hlk, hnm⟩ := cx
  intro H locs ls hH hL hl
  obtain ⟨cf, kf, fi, f, a, cell, g1, g2, g3, g4, g5, g6, g7, g8⟩ := (hT.2.2.2.2.2.2.1).kept (am_old hH)
  exact W.gets hx hb hown (hT.1 _ hw args) g1 g2 g3 g4 g5 (fun e => by rw [e] at g6; cases g6) (v := va_rf (ad 15)) g7 rfl hd (kk H locs ls hH hL hl)
theorem am_salen (cx : am_Ctx l R y cc nL ret ov M' mc ms G) {q : Nat} (hd : decode cc pc = .ok (.arraylength, 1)) (hi : am_isB q = true) (kk : G (pc + 1) lv (.inl (Int32.ofNat (am_sL q)) :: st) M k n) : G pc lv (.inr (.inr (.inr q)) :: st) M k n := by
  obtain ⟨p, e, s, m, args, below, meth, c, B, ad, H0, D, cy, Q, rfl, hQ, hx, hb, hml, hown, hT, hK, hr, hlk, hnm⟩ := cx
  intro H locs ls hH hL hl
  obtain ⟨⟨adK, adV, h1, h2⟩, -⟩ := hT.2.2.2.2
  obtain ⟨ha, hb2⟩ := (Bool.and_eq_true _ _).mp hi
  have ha := of_decide_eq_true ha
  have hb2 := of_decide_eq_true hb2
  obtain ⟨i, rfl⟩ : ∃ i, q = 8 + i := ⟨q - 8, by omega⟩
  have hi : i < 7 := by omega
  obtain ⟨cell, g1, g2, g3, g4, g5, g6, g7⟩ := ((h2.1 i hi).2.2.2).kept (am_old hH)
  have e8 : 8 + i - 8 = i := by omega
  show W p l e R s m args below meth c H locs k n _ (F0 m pc ls (va_rf (ad (8 + i)) :: st.map (am_v B ad)))
  rw [(h1 i hi).2.1]
  have k1 := kk H locs ls hH hL hl
  unfold am_sL at k1
  rw [e8] at k1
  exact W.alen (n := Int32.ofNat (am_sle.getD i 0)) hx hb g1 g2 g5 rfl rfl hd k1
theorem am_sbald (cx : am_Ctx l R y cc nL ret ov M' mc ms G) {q : Nat} {j : Int32} (hd : decode cc pc = .ok (.baload, 1)) (hi : am_isB q = true) (hj : am_in j (am_sL q) = true) (kk : G (pc + 1) lv (.inl (am_sB q j.toNatClampNeg) :: st) M k n) : G pc lv (.inl j :: .inr (.inr (.inr q)) :: st) M k n := by
  obtain ⟨p, e, s, m, args, below, meth, c, B, ad, H0, D, cy, Q, rfl, hQ, hx, hb, hml, hown, hT, hK, hr, hlk, hnm⟩ := cx
  intro H locs ls hH hL hl
  obtain ⟨⟨adK, adV, h1, h2⟩, -⟩ := hT.2.2.2.2
  obtain ⟨ha, hb2⟩ := (Bool.and_eq_true _ _).mp hi
  have ha := of_decide_eq_true ha
  have hb2 := of_decide_eq_true hb2
  obtain ⟨i, rfl⟩ : ∃ i, q = 8 + i := ⟨q - 8, by omega⟩
  have hi : i < 7 := by omega
  obtain ⟨cell, g1, g2, g3, g4, g5, g6, g7⟩ := ((h2.1 i hi).2.2.2).kept (am_old hH)
  have e8 : 8 + i - 8 = i := by omega
  unfold am_sL at hj
  rw [e8] at hj
  have hlt := am_in_lt hj
  have hvp := am_in_vp hj
  show W p l e R s m args below meth c H locs k n _ (F0 m pc ls (.int j :: va_rf (ad (8 + i)) :: st.map (am_v B ad)))
  rw [(h1 i hi).2.1]
  have k1 : W p l e R s m args below meth c H locs k n _ (F0 m (pc + 1) ls (.int (am_sB (8 + i) j.toNatClampNeg) :: st.map (am_v B ad))) := kk H locs ls hH hL hl
  unfold am_sB at k1
  rw [e8] at k1
  refine W.bald (v := .int ((am_sby.getD i []).getD j.toNatClampNeg 0)) hx hb g1 g2 g3 ?_ (g6 _ hlt) rfl rfl hd k1
  rintro (z | z)
  · exact hvp (Or.inl z)
  · omega
theorem am_i2c (cx : am_Ctx l R y cc nL ret ov M' mc ms G) {x : Int32} (hd : decode cc pc = .ok (.i2c, 1)) (kk : G (pc + 1) lv (.inl ((x.toUInt32 % 65536).toInt32) :: st) M k n) : G pc lv (.inl x :: st) M k n := by
  obtain ⟨p, e, s, m, args, below, meth, c, B, ad, H0, D, cy, Q, rfl, hQ, hx, hb, hml, hown, hT, hK, hr, hlk, hnm⟩ := cx
  intro H locs ls hH hL hl
  exact lv_i2c hx hb hd rfl (kk H locs ls hH hL hl)
theorem am_pop1 (cx : am_Ctx l R y cc nL ret ov M' mc ms G) {a : am_A} (hd : decode cc pc = .ok (.pop, 1)) (ha : am_cat a = 1) (kk : G (pc + 1) lv st M k n) : G pc lv (a :: st) M k n := by
  obtain ⟨p, e, s, m, args, below, meth, c, B, ad, H0, D, cy, Q, rfl, hQ, hx, hb, hml, hown, hT, hK, hr, hlk, hnm⟩ := cx
  intro H locs ls hH hL hl
  exact lv_pop hx hb hd (by rw [am_v_cat]; exact ha) (kk H locs ls hH hL hl)
theorem am_nret {x : Int32} {ty : FieldType} (cx : am_Ctx l R y cc nL (some ty) (some (.inl x)) M mc ms G) (hx01 : narrow ty (.int x) = .int x) (hd : decode cc pc = .ok (.ireturn, 1)) : G pc lv [.inl x] M mc ms := by
  obtain ⟨p, e, s, m, args, below, meth, c, B, ad, H0, D, cy, Q, rfl, hQ, hx, hb, hml, hown, hT, hK, hr, hlk, hnm⟩ := cx
  intro H locs ls hH hL hl
  exact am_mono hQ (W.zret hx hb hr hx01 (fun t ht _ => ⟨rfl, by rw [ht]; exact hH⟩) hL hd hlk)
def am_CT (own : String) (idx : Nat) (y2 : MethodName) (cc2 : ByteArray) (maxL2 : Nat) (ret2 : Option FieldType) (np : Nat) : Prop :=
  am_CB own idx y2 cc2 maxL2 ret2 np ∧ am_w (.methodLink own idx y2) ∧ am_w (.instanceMethod y2) ∧ am_w (.selects y2.cls y2 y2) ∧ y2.cls = "java/lang/String"
theorem am_callVT (cx : am_Ctx l R y cc nL ret ov M' mc ms G) {r idx np maxL2 : Nat} {y2 : MethodName} {cc2 : ByteArray} {ret2 : Option FieldType} (As : List am_A) {rest : List am_A} {ov2 : Option am_A} {M2 : am_Mem} {rm2 : Room} {mc2 ms2 : Nat} (hd : decode cc pc = .ok (.invokevirtual idx, 3)) (hC : am_CT y.cls idx y2 cc2 maxL2 ret2 np) (hM : am_Met l y2 cc2 maxL2 ret2 rm2 mc2 ms2 (.inr (.inr (.inr r)) :: As) M ov2 M2) (hk : am_isS r = true) (hR : rm2.cells = mc2 ∧ rm2.slots = ms2 ∧ rm2.frames + 1 ≤ R.frames ∧ 8 + (maxL2 + 11) + rm2.locals ≤ R.locals) (hlen : As.length = np) (hrest : (rest.map am_cat).sum ≤ 8) (hcs : k + mc2 ≤ R.cells ∧ n + ms2 ≤ R.slots) (kk : G (pc + 3) lv (ov2.toList ++ rest) M2 (k + mc2) (n + ms2)) : G pc lv (As.reverse ++ .inr (.inr (.inr r)) :: rest) M k n := by
  obtain ⟨p, e, s, m, args, below, meth, c, B, ad, H0, D, cy, Q, rfl, hQ, hx, hb, hml, hown, hT, hK, hr, hlk, hnm⟩ := cx
  intro H locs ls hH hL hl
  obtain ⟨hCB, hlink, hinst, hsel, hcl⟩ := hC
  obtain ⟨⟨adK, adV, h1, h2⟩, -⟩ := hT.2.2.2.2
  have hi := of_decide_eq_true hk
  obtain ⟨cell, q1, q3, q2, -⟩ := ((h2.1 r hi).1).kept (am_old hH)
  have er : am_v B ad (.inr (.inr (.inr r))) = .ref (adK r) := by
    show va_rf (ad r) = _
    rw [(h1 r hi).1]
    rfl
  have hM1 := hM B ad H0 D cy
  rw [List.map_cons, er] at hM1
  show W p l e R s m args below meth c H locs k n _ (F0 m pc ls ((As.reverse ++ .inr (.inr (.inr r)) :: rest).map (am_v B ad)))
  rw [am_rs, er]
  have run := W.runV (p := p) (l := l) (e := e) (R := R) (below := below) (meth := meth) (locs := locs) (cells := k) (slots := n) (Ts := []) (As := As.map (am_v B ad)) (rest := rest.map (am_v B ad)) (b := adK r) (g := F0 m pc ls ((As.map (am_v B ad)).reverse ++ .ref (adK r) :: rest.map (am_v B ad))) ⟨hx, hb, hml, hown, fun w h => by cases h⟩ hM1 ⟨am_cb hT hCB hR (hT.1 _ hlink args), hT.1 _ hinst args, hT.1 _ hsel args⟩ ⟨am_blind, ⟨cell, q1, q3, by rw [hcl]; exact q2⟩, fun U hU hW => ⟨rfl, by rw [hU]; exact hH, va_K.moved hW.alike hK, hT.warm hW⟩⟩ rfl (by rw [List.length_map]; exact hlen) hl.1 rfl (by show 2 * 0 + _ ≤ 8; rw [am_rcat]; omega) hd hcs
  intro T hTT X
  obtain ⟨v, st0, t, T', L, h0, X', hL', e1, ⟨hv, hq⟩, go⟩ := run T hTT X
  have hv := Outcome.returned.inj hv
  subst hv
  obtain ⟨t2, a1, b1⟩ := kk T'.heap (locs ++ L) ls (by rw [e1]; exact hq) (fun q hq' => (List.mem_append.mp hq').elim (fun h => hL q h) (fun h => hL' q h)) hl T' rfl X'
  rw [← am_pop] at a1
  exact ⟨t2, go t2 a1, b1⟩
theorem am_callVT1 (cx : am_Ctx l R y cc nL ret ov M' mc ms G) {r idx np maxL2 : Nat} {y2 : MethodName} {cc2 : ByteArray} {ret2 : Option FieldType} (As : List am_A) {rest : List am_A} {a : am_A} {M2 : am_Mem} {rm2 : Room} {mc2 ms2 : Nat} (hd : decode cc pc = .ok (.invokevirtual idx, 3)) (hC : am_CT y.cls idx y2 cc2 maxL2 ret2 np) (hM : am_Met l y2 cc2 maxL2 ret2 rm2 mc2 ms2 (.inr (.inr (.inr r)) :: As) M (some a) M2) (hk : am_isS r = true) (hR : rm2.cells = mc2 ∧ rm2.slots = ms2 ∧ rm2.frames + 1 ≤ R.frames ∧ 8 + (maxL2 + 11) + rm2.locals ≤ R.locals) (hlen : As.length = np) (hrest : (rest.map am_cat).sum ≤ 8) (hcs : k + mc2 ≤ R.cells ∧ n + ms2 ≤ R.slots) (kk : G (pc + 3) lv (a :: rest) M2 (k + mc2) (n + ms2)) : G pc lv (As.reverse ++ .inr (.inr (.inr r)) :: rest) M k n := am_callVT cx As hd hC hM hk hR hlen hrest hcs kk
end AMS
