/-! a method with a handler: its contract, the call that is caught in it, and the call of it -/
def am_MetW (l : Launch) (y : MethodName) (cc : ByteArray) (maxL : Nat) (ret : Option FieldType) (hh : List (Nat × Nat × Nat × Nat)) (rm : Room) (mc ms : Nat) (As : List am_A) (M : am_Mem) (ov : Option am_A) (M' : am_Mem) : Prop :=
  ∀ (B : Nat) (ad : Nat → Option Nat) (H0 : Heap) (D : va_G) (cy : Nat → ClassId), vx_Met l y [.codeWith y cc maxL ret hh] rm (va_Pc (As.map (am_v B ad)) (am_Pre B ad H0 D cy M)) (am_Qc B ad H0 D cy ov M') (fun _ _ _ => False) mc ms (fun q => B < q)
def am_Hnd (l : Launch) (R : Room) (y : MethodName) (cc : ByteArray) (nL : Nat) (hh : List (Nat × Nat × Nat × Nat)) (G : am_G) : Prop :=
  ∃ (p : Program) (e : Env) (s : State) (m : MethodId) (args : Array Value) (below : List Frame) (meth : Method) (c : Code) (B : Nat) (ad : Nat → Option Nat) (H0 : Heap) (D : va_G) (cy : Nat → ClassId) (Q : State → Prop),
    G = am_W p l e R s m args below meth c B ad H0 D cy nL Q ∧ p.tables.exec = Jvm.exec ∧ c.code = cc ∧ c.maxLocals = nL ∧ s.vm.findClass y.cls = some m.cls ∧ am_T B ad H0 s ∧ va_K D vwCl (am_tys cy) s ∧ c.exceptionTable.toList = tableOf hh
theorem am_mkW {l : Launch} {y : MethodName} {cc : ByteArray} {maxL : Nat} {ret : Option FieldType} {hh : List (Nat × Nat × Nat × Nat)} {rm : Room} {mc ms : Nat} {As : List am_A} {M : am_Mem} {ov : Option am_A} {M' : am_Mem} (hy : plainName y.cls = true) (hlen : (As.map am_cat).sum ≤ maxL)
    (body : ∀ G : am_G, am_Ctx l rm y cc maxL ret ov M' mc ms G → am_Hnd l rm y cc maxL hh G → G 0 (am_largs 0 As) [] M 0 0) : am_MetW l y cc maxL ret hh rm mc ms As M ov M' := by
  intro B ad H0 D cy
  refine vx_ofWH (cc := cc) (maxL := maxL) (ret := ret) (hh := hh) hy rfl ?_
  intro p e s m args below meth c s₁ Bd hml hP
  obtain ⟨rfl, hH, hK, hT⟩ := hP
  have hown : s.vm.findClass y.cls = some m.cls := findClass_of_methodNamed Bd.named
  have hcw : (Cond.codeWith y cc maxL ret hh).before (As.map (am_v B ad)).toArray s = true := atoms_spec (ws := [Cond.codeWith y cc maxL ret hh]) Bd.pre _ List.mem_cons_self
  have hbody := body _ ⟨p, e, s, m, (As.map (am_v B ad)).toArray, below, meth, c, B, ad, H0, D, cy, vx_MQ below (am_Qc B ad H0 D cy ov M') (fun _ _ _ => False) (As.map (am_v B ad)).toArray s mc ms (fun q => B < q), rfl, fun t ht => by
      obtain ⟨o, b1, b2, b3, b4⟩ := ht
      exact ⟨o, b1, b2, Or.inl ⟨b3, b4⟩⟩, Bd.exec, Bd.bytes, hml, hown, hT, hK, Bd.returns, Bd.notSynchronized, (name_of_methodNamed Bd.named Bd.method).1⟩
    ⟨p, e, s, m, (As.map (am_v B ad)).toArray, below, meth, c, B, ad, H0, D, cy, vx_MQ below (am_Qc B ad H0 D cy ov M') (fun _ _ _ => False) (As.map (am_v B ad)).toArray s mc ms (fun q => B < q), rfl, Bd.exec, Bd.bytes, hml, hown, hT, hK, vx_table (x := y) Bd hcw⟩
  have hl := lv_entry (As.map (am_v B ad)) (n := maxL) (by rw [am_lsl]; exact hlen)
  rw [lg_entry_eq]
  rw [am_largs_eq] at hl
  exact hbody s.heap [] _ hH (fun q h => by cases h) hl
section AMK
variable {l : Launch} {R : Room} {y : MethodName} {cc : ByteArray} {nL : Nat} {ret : Option FieldType} {ov : Option am_A} {M' : am_Mem} {mc ms : Nat} {G : am_G} {pc : Nat} {lv : List (Nat × am_A)} {st : List am_A} {M : am_Mem} {k n : Nat}
set_option maxHeartbeats 4000000 in
theorem am_callVX {a0 a1 hpc ct : Nat} (hnd : am_Hnd l R y cc nL [(a0, a1, hpc, ct)] G) {r kd idx np maxL2 : Nat} {y2 : MethodName} {cc2 : ByteArray} {ret2 : Option FieldType} (As : List am_A) {rest : List am_A} {M2 : am_Mem} {rm2 : Room} {mc2 ms2 j : Nat} (hd : decode cc pc = .ok (.invokevirtual idx, 3)) (hC : am_CV y.cls idx y2 cc2 maxL2 ret2 np kd) (hM : am_MetX l y2 cc2 maxL2 ret2 rm2 mc2 ms2 (.inr (.inr (.inl r)) :: As) M M2) (hk : am_K M r = kd)
    (hR : rm2.cells = mc2 ∧ rm2.slots = ms2 ∧ rm2.frames + 1 ≤ R.frames ∧ 8 + (maxL2 + 11) + rm2.locals ≤ R.locals) (hlen : As.length = np) (hrest : (rest.map am_cat).sum ≤ 8) (hcs : k + mc2 ≤ R.cells ∧ n + ms2 ≤ R.slots)
    (hcov : ∀ x ∈ tableOf [(a0, a1, hpc, ct)], covers x pc = true ∧ x.catchType = ct ∧ x.handlerPc = hpc) (hct : ct ≠ 0) (hw : am_w (.classLink y.cls ct ex_N)) (dh : decode cc hpc = .ok (.astore j, 2)) (hj : j < nL)
    (kk : G (hpc + 2) [] [] (am_new M2 98 0) (k + mc2) (n + ms2)) : G pc lv (As.reverse ++ .inr (.inr (.inl r)) :: rest) M k n := by
  obtain ⟨p, e, s, m, args, below, meth, c, B, ad, H0, D, cy, Q, rfl, hx, hb, hml, hown, hT, hK, htab⟩ := hnd
  intro H locs ls hH hL hl
  obtain ⟨hCB, hlink, hinst, hsel, h13, T2, N2, hvc⟩ := hC
  have hpos := hH.lives (r := r) (by rw [hk]; omega)
  have h1 := hH.2.2.1 r hpos.1 hpos.2
  rw [am_at_obj hk h13] at h1
  obtain ⟨cell, q1, q2, q3, -⟩ := h1
  have hf := (hK.1 kd _ hvc).2.1
  have hM1 := hM B ad H0 D cy
  rw [List.map_cons, show am_v B ad (.inr (.inr (.inl r))) = .ref (B + r) from am_rv_pos B hpos.1] at hM1
  show W p l e R s m args below meth c H locs k n _ (F0 m pc ls ((As.reverse ++ .inr (.inr (.inl r)) :: rest).map (am_v B ad)))
  rw [am_rs, show am_v B ad (.inr (.inr (.inl r))) = .ref (B + r) from am_rv_pos B hpos.1]
  have run := vx_runV (p := p) (l := l) (e := e) (R := R) (below := below) (meth := meth) (locs := locs) (cells := k) (slots := n) (Ts := []) (As := As.map (am_v B ad)) (rest := rest.map (am_v B ad)) (b := B + r) (g := F0 m pc ls ((As.map (am_v B ad)).reverse ++ .ref (B + r) :: rest.map (am_v B ad))) ⟨hx, hb, hml, hown, fun w h => by cases h⟩ hM1 ⟨am_cb hT hCB hR (hT.1 _ hlink args), hT.1 _ hinst args, hT.1 _ hsel args⟩ ⟨am_blind, ⟨cell, q1, by rw [q3]; rfl, by rw [q2]; exact hf⟩, fun U hU hW => ⟨rfl, by rw [hU]; exact hH, va_K.moved hW.alike hK, hT.warm hW⟩⟩ rfl (by rw [List.length_map]; exact hlen) hl.1 rfl (by show 2 * 0 + _ ≤ 8; rw [am_rcat]; omega) hd hcs
  intro T hTT X
  rcases run T hTT X with ⟨v, st0, t, T', L, h0, X', hL', e1, e2, hq, go⟩ | ⟨q, st0, t, T', L, E, ce, h0, X', hL', e1, e2, ⟨hE, hq⟩, hce, hcv, hcl, go⟩
  · exact hq.elim
  subst hE
  obtain ⟨x, hx9⟩ : ∃ x, c.exceptionTable.toList = [x] := ⟨_, htab⟩
  have hxm : x ∈ tableOf [(a0, a1, hpc, ct)] := by rw [← htab, hx9]; exact List.mem_cons_self
  obtain ⟨c1, c2, c3⟩ := hcov x hxm
  have hcast : (Cond.castable ex_N ex_N).before args s = true := va_Nw.use rfl hT.2.2.2.2.2.2.2.2.2.1
  have K : vx_W p l e R s m args below meth c T'.heap (locs ++ L) (k + mc2) (n + ms2) Q (F0 m pc ls (rest.map (am_v B ad))) q := by
    refine vx_catch (own := y.cls) (name := ex_N) (E := ex_N) (ce := ce) hown [] x [] hx9 (fun z hz => by cases hz) c1 (by rw [c2]; exact hct) (by rw [c2]; exact hT.1 _ hw args) hcast (by rw [e1]; exact hce) hcv hcl ?_
    rw [c3]
    refine lv_astore hx hb dh hl hj rfl (fun ls' hl' => ?_)
    exact kk T'.heap (locs ++ L) ls' (by rw [e1]; exact hq) (fun z hz => (List.mem_append.mp hz).elim (fun h => hL z h) (fun h => hL' z h)) ⟨hl'.1, hl'.2.1, fun z hz => by cases hz⟩
  obtain ⟨t2, a9, b9⟩ := K T' rfl X'
  exact ⟨t2, go.trans a9, b9⟩
def am_CX (own : String) (idx : Nat) (y2 : MethodName) (cc2 : ByteArray) (maxL2 : Nat) (ret2 : Option FieldType) (hh : List (Nat × Nat × Nat × Nat)) (np : Nat) : Prop :=
  am_w (.initialized y2.cls) ∧ am_w (.codeWith y2 cc2 maxL2 ret2 hh) ∧ (y2.cls ≠ "java/lang/invoke/MethodHandle" ∧ y2.cls ≠ "java/lang/invoke/VarHandle") ∧ (parseMethodDescriptor y2.desc).map (fun d => d.parameters.length) = some np ∧ am_w (.methodLink own idx y2) ∧ am_w (.static y2)
set_option maxHeartbeats 4000000 in
theorem am_callSX (cx : am_Ctx l R y cc nL ret ov M' mc ms G) {idx np maxL2 : Nat} {y2 : MethodName} {cc2 : ByteArray} {ret2 : Option FieldType} {hh : List (Nat × Nat × Nat × Nat)} (As : List am_A) {rest : List am_A} {a : am_A} {M2 : am_Mem} {rm2 : Room} {mc2 ms2 : Nat} (hd : decode cc pc = .ok (.invokestatic idx, 3)) (hC : am_CX y.cls idx y2 cc2 maxL2 ret2 hh np) (hM : am_MetW l y2 cc2 maxL2 ret2 hh rm2 mc2 ms2 As M (some a) M2)
    (hR : rm2.cells = mc2 ∧ rm2.slots = ms2 ∧ rm2.frames + 1 ≤ R.frames ∧ 8 + (maxL2 + 11) + rm2.locals ≤ R.locals) (hlen : As.length = np) (hrest : (rest.map am_cat).sum ≤ 8) (hcs : k + mc2 ≤ R.cells ∧ n + ms2 ≤ R.slots) (kk : G (pc + 3) lv (a :: rest) M2 (k + mc2) (n + ms2)) : G pc lv (As.reverse ++ rest) M k n := by
  obtain ⟨p, e, s, m, args, below, meth, c, B, ad, H0, D, cy, Q, rfl, hQ, hx, hb, hml, hown, hT, hK, hr, hlk, hnm⟩ := cx
  intro H locs ls hH hL hl
  obtain ⟨w1, w2, w3, w4, w5, w6⟩ := hC
  show W p l e R s m args below meth c H locs k n _ (F0 m pc ls ((As.reverse ++ rest).map (am_v B ad)))
  rw [List.map_append, List.map_reverse]
  have run := vx_runSX (p := p) (l := l) (e := e) (R := R) (below := below) (meth := meth) (locs := locs) (cells := k) (slots := n) (Ts := []) (As := As.map (am_v B ad)) (rest := rest.map (am_v B ad)) (g := F0 m pc ls ((As.map (am_v B ad)).reverse ++ rest.map (am_v B ad))) (hh := hh) ⟨hx, hb, hml, hown, fun w h => by cases h⟩ (hM B ad H0 D cy)
    ⟨⟨hR.1, hR.2.1, hR.2.2.1, hR.2.2.2, fun w hw a' U hW => by rw [List.mem_singleton.mp hw]; exact (hT.warm hW).1 _ w2 a', List.mem_cons_self⟩, hT.1 _ w2 args, hT.1 _ w1 args, w3, fun sig h => by rw [h] at w4; exact (Option.some.inj w4).symm, hT.1 _ w5 args, hT.1 _ w6 args⟩
    ⟨am_blind, fun U hU hW => ⟨rfl, by rw [hU]; exact hH, va_K.moved hW.alike hK, hT.warm hW⟩⟩ rfl (by rw [List.length_map]; exact hlen) hl.1 rfl (by show 2 * 0 + _ ≤ 8; rw [am_rcat]; omega) hd hcs
  intro T hTT X
  rcases run T hTT X with ⟨v, st0, t, T', L, h0, X', hL', e1, e2, ⟨hv, hq⟩, go⟩ | ⟨q, st0, t, T', L, E, ce, h0, X', hL', e1, e2, hF, hce, hcv, hcl, go⟩
  · have hv := Outcome.returned.inj hv
    subst hv
    obtain ⟨t2, a1, b1⟩ := kk T'.heap (locs ++ L) ls (by rw [e1]; exact hq) (fun q hq' => (List.mem_append.mp hq').elim (fun h => hL q h) (fun h => hL' q h)) hl T' rfl X'
    exact ⟨t2, go t2 a1, b1⟩
  · exact hF.elim
end AMK
/-! the law's script: an array of ints that was there before -/
def am_Scr (l : Launch) (R : Room) (y : MethodName) (cc : ByteArray) (nL : Nat) (Ls : Nat) (xs : Nat → Int32) (G : am_G) : Prop :=
  ∃ (p : Program) (e : Env) (s : State) (m : MethodId) (args : Array Value) (below : List Frame) (meth : Method) (c : Code) (B : Nat) (ad : Nat → Option Nat) (H0 : Heap) (D : va_G) (cy : Nat → ClassId) (Q : State → Prop) (b : Nat),
    G = am_W p l e R s m args below meth c B ad H0 D cy nL Q ∧ p.tables.exec = Jvm.exec ∧ c.code = cc ∧ c.maxLocals = nL ∧ ad 7 = some b ∧ b ≤ B ∧ va_X b Ls xs s H0
section AMX2
variable {l : Launch} {R : Room} {y : MethodName} {cc : ByteArray} {nL : Nat} {Ls : Nat} {xs : Nat → Int32} {G : am_G} {pc : Nat} {lv : List (Nat × am_A)} {st : List am_A} {M : am_Mem} {k n : Nat}
theorem am_xlen (sc : am_Scr l R y cc nL Ls xs G) (hd : decode cc pc = .ok (.arraylength, 1)) (kk : G (pc + 1) lv (.inl (Int32.ofNat Ls) :: st) M k n) : G pc lv (.inr (.inr (.inr 7)) :: st) M k n := by
  obtain ⟨p, e, s, m, args, below, meth, c, B, ad, H0, D, cy, Q, b, rfl, hx, hb, hml, h7, hbB, hX⟩ := sc
  intro H locs ls hH hL hl
  obtain ⟨scr, h1, h2, h3, h4, h5⟩ := hX
  show W p l e R s m args below meth c H locs k n _ (F0 m pc ls (va_rf (ad 7) :: st.map (am_v B ad)))
  rw [h7]
  exact W.alen (n := Int32.ofNat Ls) hx hb (by rw [hH.2.1 b hbB]; exact h1) h2 (by rw [h4] <;> rfl) rfl rfl hd (kk H locs ls hH hL hl)
theorem am_xld (sc : am_Scr l R y cc nL Ls xs G) {i : Int32} (hd : decode cc pc = .ok (.iaload, 1)) (hi : am_in i Ls = true) (kk : G (pc + 1) lv (.inl (xs i.toNatClampNeg) :: st) M k n) : G pc lv (.inl i :: .inr (.inr (.inr 7)) :: st) M k n := by
  obtain ⟨p, e, s, m, args, below, meth, c, B, ad, H0, D, cy, Q, b, rfl, hx, hb, hml, h7, hbB, hX⟩ := sc
  intro H locs ls hH hL hl
  obtain ⟨scr, h1, h2, h3, h4, h5⟩ := hX
  show W p l e R s m args below meth c H locs k n _ (F0 m pc ls (.int i :: va_rf (ad 7) :: st.map (am_v B ad)))
  rw [h7]
  exact W.iald (v := .int (xs i.toNatClampNeg)) hx hb (by rw [hH.2.1 b hbB]; exact h1) h2 h3 (by rw [h4]; exact am_in_vp hi) (h5 _ (am_in_lt hi)) rfl rfl hd (kk H locs ls hH hL hl)
end AMX2
