/-! a method that throws: its contract, and the row of the throw (it follows vx_throwS, with ex_ctor) -/
def am_XC (B : Nat) (H0 : Heap) (D : va_G) (cy : Nat → ClassId) (M2 : am_Mem) : String → State → State → Prop := fun E _ t => E = ex_N ∧ am_H B H0 D cy (am_new M2 98 0) t.heap
/-- from M the method throws: M2 stood before the exception was made -/
def am_MetX (l : Launch) (y : MethodName) (cc : ByteArray) (maxL : Nat) (ret : Option FieldType) (rm : Room) (mc ms : Nat) (As : List am_A) (M : am_Mem) (M2 : am_Mem) : Prop :=
  ∀ (B : Nat) (ad : Nat → Option Nat) (H0 : Heap) (D : va_G) (cy : Nat → ClassId), vx_Met l y [.code y cc maxL ret] rm (va_Pc (As.map (am_v B ad)) (am_Pre B ad H0 D cy M)) (fun _ _ _ _ => False) (am_XC B H0 D cy M2) mc ms (fun q => B < q)
def am_HS (B : Nat) (H0 : Heap) (s : State) : Prop := ∀ q : Nat, q ≤ B → s.heap[q]? = H0[q]?
def am_Thr (l : Launch) (R : Room) (y : MethodName) (cc : ByteArray) (nL : Nat) (M2 : am_Mem) (mc ms : Nat) (G : am_G) : Prop :=
  ∃ (p : Program) (e : Env) (s : State) (m : MethodId) (args : Array Value) (below : List Frame) (meth : Method) (c : Code) (B : Nat) (ad : Nat → Option Nat) (H0 : Heap) (D : va_G) (cy : Nat → ClassId),
    G = am_W p l e R s m args below meth c B ad H0 D cy nL (vx_MQ below (fun _ _ _ _ => False) (am_XC B H0 D cy M2) args s mc ms (fun q => B < q)) ∧ p.tables.exec = Jvm.exec ∧ c.code = cc ∧ c.maxLocals = nL ∧ s.vm.findClass y.cls = some m.cls ∧ am_T B ad H0 s ∧ meth.locks = false ∧ (∀ x ∈ c.exceptionTable.toList, False) ∧ l.stackTraces = false ∧ B < s.heap.size ∧ am_HS B H0 s
theorem am_mkX {l : Launch} {y : MethodName} {cc : ByteArray} {maxL : Nat} {ret : Option FieldType} {rm : Room} {mc ms : Nat} {As : List am_A} {M M2 : am_Mem} (hy : plainName y.cls = true) (hlen : (As.map am_cat).sum ≤ maxL) (hst : l.stackTraces = false)
    (body : ∀ G : am_G, am_Ctx l rm y cc maxL ret none am_bad mc ms G → am_Thr l rm y cc maxL M2 mc ms G → G 0 (am_largs 0 As) [] M 0 0) : am_MetX l y cc maxL ret rm mc ms As M M2 := by
  intro B ad H0 D cy
  refine vx_ofW (cc := cc) (maxL := maxL) (ret := ret) hy rfl ?_
  intro p e s m args below meth c s₁ Bd hml hnx hP
  obtain ⟨rfl, hH, hK, hT⟩ := hP
  have hown : s.vm.findClass y.cls = some m.cls := findClass_of_methodNamed Bd.named
  have hz := hH.1
  have hbody := body _ ⟨p, e, s, m, (As.map (am_v B ad)).toArray, below, meth, c, B, ad, H0, D, cy, _, rfl, fun t ht => by
      obtain ⟨o, -, -, hq, -⟩ := ht
      exact (am_bad_no hq.2).elim, Bd.exec, Bd.bytes, hml, hown, hT, hK, Bd.returns, Bd.notSynchronized, (name_of_methodNamed Bd.named Bd.method).1⟩
    ⟨p, e, s, m, (As.map (am_v B ad)).toArray, below, meth, c, B, ad, H0, D, cy, rfl, Bd.exec, Bd.bytes, hml, hown, hT, Bd.notSynchronized, hnx, hst, by omega, fun q hq => hH.2.1 q hq⟩
  have hl := lv_entry (As.map (am_v B ad)) (n := maxL) (by rw [am_lsl]; exact hlen)
  rw [lg_entry_eq]
  rw [am_largs_eq] at hl
  exact hbody s.heap [] _ hH (fun q h => by cases h) hl
set_option maxHeartbeats 4000000 in
theorem am_throw {l : Launch} {R : Room} {y : MethodName} {cc : ByteArray} {nL : Nat} {mc ms : Nat} {G : am_G} {pc : Nat} {lv : List (Nat × am_A)} {M : am_Mem} {k n is : Nat} (th : am_Thr l R y cc nL M mc ms G) (hy : y.cls = RX11) (i : Nat) (hi : i < 7) (ho : am_so i = RX11) (hs : am_si i = is) (hcl : am_w (.classLink RX11 147 ex_N)) (hini : am_w (.initialized ex_N))
    (d0 : decode cc pc = .ok (.new 147, 3)) (d3 : decode cc (pc + 3) = .ok (.dup, 1)) (d4 : decode cc (pc + 4) = .ok (.ldc is, 2)) (d6 : decode cc (pc + 6) = .ok (.invokespecial 151, 3)) (d9 : decode cc (pc + 9) = .ok (.athrow, 1))
    (hRf : 5 < R.frames) (hRl : 82 ≤ R.locals) (hRc : k + 1 ≤ R.cells) (hRs : n + 6 ≤ R.slots) (hc : k + 1 ≤ mc) (hs2 : n + 6 ≤ ms) : G pc lv [] M k n := by
  obtain ⟨p, e, s, m, args, below, meth, c, B, ad, H0, D, cy, rfl, hexec, hb, hml, hown, hT, hlocks, hnx, hst, hBs, hHS⟩ := th
  subst hs
  rw [hy] at hown
  intro H locs ls hH hL hl T hTT X
  obtain ⟨⟨adK, adV, g1, g2⟩, -, -, hU0, hN0, -, -⟩ := hT.2.2.2.2
  have hR := (g1 i hi).2.2
  rw [ho] at hR
  have htr : e.platform.stackTraces = false := (show e.platform.stackTraces = l.stackTraces by rw [X.admits.platform]).trans hst
  have Y := vx_rebase X (R' := { frames := R.frames, locals := R.locals, cells := 1, slots := 6 }) (Nat.le_refl _) (Nat.le_refl _) hRc hRs
  obtain ⟨s', hA⟩ : ∃ z, z = (T.setVm s.vm).setFrames (.invoking m args :: below) := ⟨_, rfl⟩
  rw [← hA] at Y
  have hvm : s'.vm = s.vm := by rw [hA]; rfl
  have hhp : s'.heap = H := by rw [hA]; exact hTT
  have hW0 : s.WarmedH s'.vm := by rw [hvm]; exact State.WarmedH.refl s
  have hT' := hT.warm hW0
  have hU' : vx_Zq Bundle.tN "UNASSIGNED_STACK" Bundle.steD (fun q => B < q) s' s'.heap := by rw [hhp]; exact vx_Zq.moved hW0.alike (hU0.kept (am_old hH))
  have hN' : vx_Zq Bundle.tN "SUPPRESSED_SENTINEL" Bundle.listD (fun q => B < q) s' s'.heap := by rw [hhp]; exact vx_Zq.moved hW0.alike (hN0.kept (am_old hH))
  have h : ∀ w ∈ ex_L, w.before args s' = true := vx_own (ex_words hT') (vx_isRefq hU'.1) (vx_isRefq hN'.1) hU'.2.word hN'.2.word
  have hown' : s'.vm.findClass RX11 = some m.cls := by rw [hvm]; exact hown
  have hins : (Cond.instantiable ex_N 6).before args s' = true := h _ (by simp [ex_L, Bundle.ownAtomsX])
  obtain ⟨vm₁, cX, kX, hfX, hkX, -, -, X₁, st1⟩ := Y.newCold hexec (own := RX11) (C := ex_N) (index := 147) (n := 6) hown' (hT'.1 _ hcl args) hins (hT'.1 _ hini args)
    (g := F0 m pc ls []) rfl (by rw [hb]; exact d0) (Nat.le_refl _) (Nat.le_refl _)
  generalize hT1 : (T.setVm vm₁).pushCell { cls := cX, slots := kX.instanceTypes.map defaultValue, vm := .none } = T1 at X₁ st1
  have hcellA : T1.heap[T.heap.size]? = some (freshCell cX kX) := by rw [← hT1]; exact State.heap_pushCell_size _ _
  have hsz1 : T1.heap.size = H.size + 1 := by rw [← hT1, size_pushCell]; show T.heap.size + 1 = _; rw [hTT]
  have d3' : decode c.code (pc + 3) = .ok (.dup, 1) := by rw [hb]; exact d3
  have d4' : decode c.code (pc + 4) = .ok (.ldc (am_si i), 2) := by rw [hb]; exact d4
  have hstr' : vk_R RX11 (am_si i) (am_sx i) (adK i) s' := vk_R.warm hW0 hR
  obtain ⟨U, hsteps, hrun, hend, hW, hsame, hsz, ce, hce, hcv, hcc⟩ := ex_ctor X₁ hexec htr hown' h (fun x hx => nomatch hx) hfX hkX hcellA (by rw [hhp, hTT]; exact Nat.le_refl _) (msg := .ref (adK i)) rfl
    (g := { method := m, pc := pc + 6, locals := ls, stack := .ref (adK i) :: .ref T.heap.size :: .ref T.heap.size :: [], locked := none }) rfl (hl.1.trans hml.symm) rfl rfl (rest := []) rfl
    (by rw [hb]; exact d6) (by rw [hb]; exact d9) (fun x hx => (hnx x hx).elim) hRf (by show 2 * 0 + (1 + 0) + _ ≤ _; omega) hlocks
  obtain ⟨f1, f2⟩ := vx_frame hsame
  rw [hhp] at f1 f2
  have hWs : s.WarmedH U.vm := State.WarmedH.trans hW0 hW
  have hcls : s.vm.findClass ex_N = some ce.cls := by rw [← hvm, hcc]; exact hfX
  have hall : s.sameButNew ({ U with vm := s.vm } : State) locs mc ms := by
    subst hA
    obtain ⟨e1, e2⟩ := hsame
    rw [State.setFrames_setFrames] at e1
    have h2 : (T.setVm s.vm).sameButNew ({ U with vm := s.vm } : State) [] (0 + 1) (0 + 6) := ⟨e1, e2⟩
    have h3 := X.same.trans h2
    rw [List.append_nil] at h3
    exact h3.mono hc hs2
  have hM : am_H B H0 D cy (am_new M 98 0) U.heap := by
    refine hH.push (by rw [hsz, hsz1]) (fun q hq => f2 q hq (fun z hz => nomatch hz)) ?_
    have eK : am_K (am_new M 98 0) (am_n M + 1) = 98 := am_u1_eq _ _ _
    unfold am_at
    rw [eK, if_neg (by decide)]
    exact Or.inl rfl
  refine ⟨U, ?_, .threw T.heap.size, hrun, hend, Or.inr ⟨T.heap.size, rfl, ex_N, ce, locs, ⟨rfl, hM⟩, hce, hcv, hcls, hWs, hall, hL⟩⟩
  refine st1 _ ?_
  show Steps p.tables e below (T1.setTop { method := m, pc := pc + 3, locals := ls, stack := .ref T.heap.size :: [], locked := none }) _
  jvm_step X₁.here [X₁.here.top, hexec, d3', Value.category]
  exact X₁.ldcString hexec (own := RX11) (text := am_sx i) (index := am_si i) (a := adK i) hown' hstr'.1 hstr'.2
    (g := { method := m, pc := pc + 4, locals := ls, stack := .ref T.heap.size :: .ref T.heap.size :: [], locked := none }) rfl d4' _ hsteps
