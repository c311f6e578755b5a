section AMR
variable {l : Launch} {R : Room} {y : MethodName} {cc : ByteArray} {nL : Nat} {ret : Option FieldType} {ov : Option am_A} {M' : am_Mem} {mc ms : Nat} {G : am_G} {pc : Nat} {lv : List (Nat × am_A)} {st : List am_A} {M : am_Mem} {k n : Nat}
theorem am_iconst (cx : am_Ctx l R y cc nL ret ov M' mc ms G) {i : Int} {v : Int32} (hd : decode cc pc = .ok (.iconst i, 1)) (hv : Int32.ofInt i = v) (kk : G (pc + 1) lv (.inl v :: st) M k n) : G pc lv (st) M k n := by
  obtain ⟨p, e, s, m, args, below, meth, c, B, ad, H0, D, cy, Q, rfl, hQ, hx, hb, hml, hown, hT, hK, hr, hlk, hnm⟩ := cx
  intro H locs ls hH hL hl
  exact lv_iconst hx hb hd hv (kk H locs ls hH hL hl)
theorem am_bipush (cx : am_Ctx l R y cc nL ret ov M' mc ms G) {i : Int} {v : Int32} (hd : decode cc pc = .ok (.bipush i, 2)) (hv : (Int8.ofInt i).toInt32 = v) (kk : G (pc + 2) lv (.inl v :: st) M k n) : G pc lv (st) M k n := by
  obtain ⟨p, e, s, m, args, below, meth, c, B, ad, H0, D, cy, Q, rfl, hQ, hx, hb, hml, hown, hT, hK, hr, hlk, hnm⟩ := cx
  intro H locs ls hH hL hl
  exact lv_bipush hx hb hd hv (kk H locs ls hH hL hl)
theorem am_sipush (cx : am_Ctx l R y cc nL ret ov M' mc ms G) {i : Int} {v : Int32} (hd : decode cc pc = .ok (.sipush i, 3)) (hv : (Int16.ofInt i).toInt32 = v) (kk : G (pc + 3) lv (.inl v :: st) M k n) : G pc lv (st) M k n := by
  obtain ⟨p, e, s, m, args, below, meth, c, B, ad, H0, D, cy, Q, rfl, hQ, hx, hb, hml, hown, hT, hK, hr, hlk, hnm⟩ := cx
  intro H locs ls hH hL hl
  exact lv_sipush hx hb hd hv (kk H locs ls hH hL hl)
theorem am_lconst (cx : am_Ctx l R y cc nL ret ov M' mc ms G) {i : Fin 2} {v : Int64} (hd : decode cc pc = .ok (.lconst i, 1)) (hv : Int64.ofNat (i : Nat) = v) (kk : G (pc + 1) lv (.inr (.inl v) :: st) M k n) : G pc lv (st) M k n := by
  obtain ⟨p, e, s, m, args, below, meth, c, B, ad, H0, D, cy, Q, rfl, hQ, hx, hb, hml, hown, hT, hK, hr, hlk, hnm⟩ := cx
  intro H locs ls hH hL hl
  exact lv_lconst hx hb hd hv (kk H locs ls hH hL hl)
theorem am_ldc (cx : am_Ctx l R y cc nL ret ov M' mc ms G) {i : Nat} {v : Int32} (hd : decode cc pc = .ok (.ldc i, 2)) (hw : am_w (.constant y.cls i v)) (kk : G (pc + 2) lv (.inl v :: st) M k n) : G pc lv (st) M k n := by
  obtain ⟨p, e, s, m, args, below, meth, c, B, ad, H0, D, cy, Q, rfl, hQ, hx, hb, hml, hown, hT, hK, hr, hlk, hnm⟩ := cx
  intro H locs ls hH hL hl
  exact lv_ldc hx hb hown (hT.1 _ hw args) hd (kk H locs ls hH hL hl)
theorem am_ldcw (cx : am_Ctx l R y cc nL ret ov M' mc ms G) {i : Nat} {v : Int32} (hd : decode cc pc = .ok (.ldc_w i, 3)) (hw : am_w (.constant y.cls i v)) (kk : G (pc + 3) lv (.inl v :: st) M k n) : G pc lv (st) M k n := by
  obtain ⟨p, e, s, m, args, below, meth, c, B, ad, H0, D, cy, Q, rfl, hQ, hx, hb, hml, hown, hT, hK, hr, hlk, hnm⟩ := cx
  intro H locs ls hH hL hl
  exact lv_ldcw hx hb hown (hT.1 _ hw args) hd (kk H locs ls hH hL hl)
theorem am_ldc2 (cx : am_Ctx l R y cc nL ret ov M' mc ms G) {i : Nat} {v : Int64} (hd : decode cc pc = .ok (.ldc2_w i, 3)) (hw : am_w (.constantLong y.cls i v)) (kk : G (pc + 3) lv (.inr (.inl v) :: st) M k n) : G pc lv (st) M k n := by
  obtain ⟨p, e, s, m, args, below, meth, c, B, ad, H0, D, cy, Q, rfl, hQ, hx, hb, hml, hown, hT, hK, hr, hlk, hnm⟩ := cx
  intro H locs ls hH hL hl
  exact lv_ldc2 hx hb hown (hT.1 _ hw args) hd (kk H locs ls hH hL hl)
theorem am_null (cx : am_Ctx l R y cc nL ret ov M' mc ms G) (hd : decode cc pc = .ok (.aconst_null, 1)) (kk : G (pc + 1) lv (.inr (.inr (.inl 0)) :: st) M k n) : G pc lv (st) M k n := by
  obtain ⟨p, e, s, m, args, below, meth, c, B, ad, H0, D, cy, Q, rfl, hQ, hx, hb, hml, hown, hT, hK, hr, hlk, hnm⟩ := cx
  intro H locs ls hH hL hl
  exact lv_null hx hb hd (kk H locs ls hH hL hl)
theorem am_iload_n (cx : am_Ctx l R y cc nL ret ov M' mc ms G) {j : Fin 4} (q : Nat) {x : Int32} (hd : decode cc pc = .ok (.iload_n j, 1)) (hq : lv[q]? = some ((j : Nat), .inl x)) (kk : G (pc + 1) lv (.inl x :: st) M k n) : G pc lv (st) M k n := by
  obtain ⟨p, e, s, m, args, below, meth, c, B, ad, H0, D, cy, Q, rfl, hQ, hx, hb, hml, hown, hT, hK, hr, hlk, hnm⟩ := cx
  intro H locs ls hH hL hl
  exact lv_iload_n hx hb hd rfl (am_lat hl q hq) (kk H locs ls hH hL hl)
theorem am_iload (cx : am_Ctx l R y cc nL ret ov M' mc ms G) {j : Nat} (q : Nat) {x : Int32} (hd : decode cc pc = .ok (.iload j, 2)) (hq : lv[q]? = some (j, .inl x)) (kk : G (pc + 2) lv (.inl x :: st) M k n) : G pc lv (st) M k n := by
  obtain ⟨p, e, s, m, args, below, meth, c, B, ad, H0, D, cy, Q, rfl, hQ, hx, hb, hml, hown, hT, hK, hr, hlk, hnm⟩ := cx
  intro H locs ls hH hL hl
  exact lv_iload hx hb hd (am_lat hl q hq) (kk H locs ls hH hL hl)
theorem am_lload_n (cx : am_Ctx l R y cc nL ret ov M' mc ms G) {j : Fin 4} (q : Nat) {x : Int64} (hd : decode cc pc = .ok (.lload_n j, 1)) (hq : lv[q]? = some ((j : Nat), .inr (.inl x))) (kk : G (pc + 1) lv (.inr (.inl x) :: st) M k n) : G pc lv (st) M k n := by
  obtain ⟨p, e, s, m, args, below, meth, c, B, ad, H0, D, cy, Q, rfl, hQ, hx, hb, hml, hown, hT, hK, hr, hlk, hnm⟩ := cx
  intro H locs ls hH hL hl
  exact lv_lload_n hx hb hd rfl (am_lat hl q hq) (kk H locs ls hH hL hl)
theorem am_lload (cx : am_Ctx l R y cc nL ret ov M' mc ms G) {j : Nat} (q : Nat) {x : Int64} (hd : decode cc pc = .ok (.lload j, 2)) (hq : lv[q]? = some (j, .inr (.inl x))) (kk : G (pc + 2) lv (.inr (.inl x) :: st) M k n) : G pc lv (st) M k n := by
  obtain ⟨p, e, s, m, args, below, meth, c, B, ad, H0, D, cy, Q, rfl, hQ, hx, hb, hml, hown, hT, hK, hr, hlk, hnm⟩ := cx
  intro H locs ls hH hL hl
  exact lv_lload hx hb hd (am_lat hl q hq) (kk H locs ls hH hL hl)
theorem am_aload_n (cx : am_Ctx l R y cc nL ret ov M' mc ms G) {j : Fin 4} (q : Nat) {x : Nat} (hd : decode cc pc = .ok (.aload_n j, 1)) (hq : lv[q]? = some ((j : Nat), .inr (.inr (.inl x)))) (kk : G (pc + 1) lv (.inr (.inr (.inl x)) :: st) M k n) : G pc lv st M k n := by
  obtain ⟨p, e, s, m, args, below, meth, c, B, ad, H0, D, cy, Q, rfl, hQ, hx, hb, hml, hown, hT, hK, hr, hlk, hnm⟩ := cx
  intro H locs ls hH hL hl
  have h1 : ls[(j : Nat)]? = some (.val (am_rv B x)) := am_lat hl q hq
  have k1 := kk H locs ls hH hL hl
  rcases Nat.eq_zero_or_pos x with h0 | h0
  · subst h0
    exact lv_aload_nN hx hb hd rfl h1 k1
  · rw [am_rv_pos B h0] at h1
    have k2 : W p l e R s m args below meth c H locs k n _ (F0 m (pc + 1) ls (am_rv B x :: st.map (am_v B ad))) := k1
    rw [am_rv_pos B h0] at k2
    exact lv_aload_n hx hb hd rfl h1 k2
theorem am_aload (cx : am_Ctx l R y cc nL ret ov M' mc ms G) {j : Nat} (q : Nat) {x : Nat} (hd : decode cc pc = .ok (.aload j, 2)) (hq : lv[q]? = some (j, .inr (.inr (.inl x)))) (kk : G (pc + 2) lv (.inr (.inr (.inl x)) :: st) M k n) : G pc lv st M k n := by
  obtain ⟨p, e, s, m, args, below, meth, c, B, ad, H0, D, cy, Q, rfl, hQ, hx, hb, hml, hown, hT, hK, hr, hlk, hnm⟩ := cx
  intro H locs ls hH hL hl
  have h1 : ls[j]? = some (.val (am_rv B x)) := am_lat hl q hq
  have k1 := kk H locs ls hH hL hl
  rcases Nat.eq_zero_or_pos x with h0 | h0
  · subst h0
    exact lv_aloadN hx hb hd h1 k1
  · rw [am_rv_pos B h0] at h1
    have k2 : W p l e R s m args below meth c H locs k n _ (F0 m (pc + 2) ls (am_rv B x :: st.map (am_v B ad))) := k1
    rw [am_rv_pos B h0] at k2
    exact lv_aload hx hb hd h1 k2
theorem am_istore_n (cx : am_Ctx l R y cc nL ret ov M' mc ms G) {j : Fin 4} {x : Int32} {lv' : List (Nat × am_A)} (hd : decode cc pc = .ok (.istore_n j, 1)) (hn : (j : Nat) < nL) (hs : am_set lv j (.inl x) = lv') (kk : G (pc + 1) lv' st M k n) : G pc lv (.inl x :: st) M k n := by
  obtain ⟨p, e, s, m, args, below, meth, c, B, ad, H0, D, cy, Q, rfl, hQ, hx, hb, hml, hown, hT, hK, hr, hlk, hnm⟩ := cx
  intro H locs ls hH hL hl
  subst hs
  exact lv_istore_n hx hb hd rfl hl hn rfl (fun ls' hl' => kk H locs ls' hH hL (am_set_has hl'))
theorem am_istore (cx : am_Ctx l R y cc nL ret ov M' mc ms G) {j : Nat} {x : Int32} {lv' : List (Nat × am_A)} (hd : decode cc pc = .ok (.istore j, 2)) (hn : j < nL) (hs : am_set lv j (.inl x) = lv') (kk : G (pc + 2) lv' st M k n) : G pc lv (.inl x :: st) M k n := by
  obtain ⟨p, e, s, m, args, below, meth, c, B, ad, H0, D, cy, Q, rfl, hQ, hx, hb, hml, hown, hT, hK, hr, hlk, hnm⟩ := cx
  intro H locs ls hH hL hl
  subst hs
  exact lv_istore hx hb hd hl hn rfl (fun ls' hl' => kk H locs ls' hH hL (am_set_has hl'))
theorem am_lstore_n (cx : am_Ctx l R y cc nL ret ov M' mc ms G) {j : Fin 4} {x : Int64} {lv' : List (Nat × am_A)} (hd : decode cc pc = .ok (.lstore_n j, 1)) (hn : (j : Nat) + 1 < nL) (hs : am_set2 lv j (.inr (.inl x)) = lv') (kk : G (pc + 1) lv' st M k n) : G pc lv (.inr (.inl x) :: st) M k n := by
  obtain ⟨p, e, s, m, args, below, meth, c, B, ad, H0, D, cy, Q, rfl, hQ, hx, hb, hml, hown, hT, hK, hr, hlk, hnm⟩ := cx
  intro H locs ls hH hL hl
  subst hs
  exact lv_lstore_n hx hb hd rfl hl hn rfl (fun ls' hl' => kk H locs ls' hH hL (am_set2_has hl'))
theorem am_lstore (cx : am_Ctx l R y cc nL ret ov M' mc ms G) {j : Nat} {x : Int64} {lv' : List (Nat × am_A)} (hd : decode cc pc = .ok (.lstore j, 2)) (hn : j + 1 < nL) (hs : am_set2 lv j (.inr (.inl x)) = lv') (kk : G (pc + 2) lv' st M k n) : G pc lv (.inr (.inl x) :: st) M k n := by
  obtain ⟨p, e, s, m, args, below, meth, c, B, ad, H0, D, cy, Q, rfl, hQ, hx, hb, hml, hown, hT, hK, hr, hlk, hnm⟩ := cx
  intro H locs ls hH hL hl
  subst hs
  exact lv_lstore hx hb hd hl hn rfl (fun ls' hl' => kk H locs ls' hH hL (am_set2_has hl'))
theorem am_astore_n (cx : am_Ctx l R y cc nL ret ov M' mc ms G) {j : Fin 4} {x : Nat} {lv' : List (Nat × am_A)} (hd : decode cc pc = .ok (.astore_n j, 1)) (hn : (j : Nat) < nL) (hs : am_set lv (j : Nat) (.inr (.inr (.inl x))) = lv') (kk : G (pc + 1) lv' st M k n) : G pc lv (.inr (.inr (.inl x)) :: st) M k n := by
  obtain ⟨p, e, s, m, args, below, meth, c, B, ad, H0, D, cy, Q, rfl, hQ, hx, hb, hml, hown, hT, hK, hr, hlk, hnm⟩ := cx
  intro H locs ls hH hL hl
  subst hs
  show W p l e R s m args below meth c H locs k n _ (F0 m pc ls (am_rv B x :: st.map (am_v B ad)))
  rcases Nat.eq_zero_or_pos x with h0 | h0
  · subst h0
    exact lv_astore_nN hx hb hd rfl hl hn rfl (fun ls' hl' => kk H locs ls' hH hL (am_set_has hl'))
  · have key : ∀ ls' : Array Slot, lv_has ls' nL (((j : Nat), am_v B ad (.inr (.inr (.inl x)))) :: (lv.map (am_lv B ad)).filter (fun q => !(q.1 == (j : Nat)) && !(q.1 + 1 == (j : Nat) && q.2.category == 2))) → W p l e R s m args below meth c H locs k n _ (F0 m (pc + 1) ls' (st.map (am_v B ad))) := fun ls' hl' => kk H locs ls' hH hL (am_set_has hl')
    have e1 : am_v B ad (.inr (.inr (.inl x))) = .ref (B + x) := am_rv_pos B h0
    rw [e1] at key
    rw [am_rv_pos B h0]
    exact lv_astore_n hx hb hd rfl hl hn rfl key
theorem am_astore (cx : am_Ctx l R y cc nL ret ov M' mc ms G) {j : Nat} {x : Nat} {lv' : List (Nat × am_A)} (hd : decode cc pc = .ok (.astore j, 2)) (hn : j < nL) (hs : am_set lv j (.inr (.inr (.inl x))) = lv') (kk : G (pc + 2) lv' st M k n) : G pc lv (.inr (.inr (.inl x)) :: st) M k n := by
  obtain ⟨p, e, s, m, args, below, meth, c, B, ad, H0, D, cy, Q, rfl, hQ, hx, hb, hml, hown, hT, hK, hr, hlk, hnm⟩ := cx
  intro H locs ls hH hL hl
  subst hs
  show W p l e R s m args below meth c H locs k n _ (F0 m pc ls (am_rv B x :: st.map (am_v B ad)))
  rcases Nat.eq_zero_or_pos x with h0 | h0
  · subst h0
    exact lv_astoreN hx hb hd hl hn rfl (fun ls' hl' => kk H locs ls' hH hL (am_set_has hl'))
  · have key : ∀ ls' : Array Slot, lv_has ls' nL ((j, am_v B ad (.inr (.inr (.inl x)))) :: (lv.map (am_lv B ad)).filter (fun q => !(q.1 == j) && !(q.1 + 1 == j && q.2.category == 2))) → W p l e R s m args below meth c H locs k n _ (F0 m (pc + 2) ls' (st.map (am_v B ad))) := fun ls' hl' => kk H locs ls' hH hL (am_set_has hl')
    have e1 : am_v B ad (.inr (.inr (.inl x))) = .ref (B + x) := am_rv_pos B h0
    rw [e1] at key
    rw [am_rv_pos B h0]
    exact lv_astore hx hb hd hl hn rfl key
theorem am_iinc (cx : am_Ctx l R y cc nL ret ov M' mc ms G) {j : Nat} (q : Nat) {d : Int} {x v : Int32} {lv' : List (Nat × am_A)} (hd : decode cc pc = .ok (.iinc j d, 3)) (hq : lv[q]? = some (j, .inl x)) (hv : x + Int32.ofInt d = v) (hn : j < nL) (hs : am_set lv j (.inl v) = lv') (kk : G (pc + 3) lv' st M k n) : G pc lv st M k n := by
  obtain ⟨p, e, s, m, args, below, meth, c, B, ad, H0, D, cy, Q, rfl, hQ, hx, hb, hml, hown, hT, hK, hr, hlk, hnm⟩ := cx
  intro H locs ls hH hL hl
  subst hs
  exact lv_iinc (k := q) hx hb hd hl (by rw [List.getElem?_map, hq]; rfl) hv hn rfl (fun ls' hl' => kk H locs ls' hH hL (am_set_has hl'))
theorem am_iadd (cx : am_Ctx l R y cc nL ret ov M' mc ms G) {x z : Int32} (hd : decode cc pc = .ok (.iadd, 1)) (kk : G (pc + 1) lv (.inl (x + z) :: st) M k n) : G pc lv (.inl z :: .inl x :: st) M k n := by
  obtain ⟨p, e, s, m, args, below, meth, c, B, ad, H0, D, cy, Q, rfl, hQ, hx, hb, hml, hown, hT, hK, hr, hlk, hnm⟩ := cx
  intro H locs ls hH hL hl
  exact lv_iadd hx hb hd (kk H locs ls hH hL hl)
theorem am_isub (cx : am_Ctx l R y cc nL ret ov M' mc ms G) {x z : Int32} (hd : decode cc pc = .ok (.isub, 1)) (kk : G (pc + 1) lv (.inl (x - z) :: st) M k n) : G pc lv (.inl z :: .inl x :: st) M k n := by
  obtain ⟨p, e, s, m, args, below, meth, c, B, ad, H0, D, cy, Q, rfl, hQ, hx, hb, hml, hown, hT, hK, hr, hlk, hnm⟩ := cx
  intro H locs ls hH hL hl
  exact lv_isub hx hb hd (kk H locs ls hH hL hl)
theorem am_imul (cx : am_Ctx l R y cc nL ret ov M' mc ms G) {x z : Int32} (hd : decode cc pc = .ok (.imul, 1)) (kk : G (pc + 1) lv (.inl (x * z) :: st) M k n) : G pc lv (.inl z :: .inl x :: st) M k n := by
  obtain ⟨p, e, s, m, args, below, meth, c, B, ad, H0, D, cy, Q, rfl, hQ, hx, hb, hml, hown, hT, hK, hr, hlk, hnm⟩ := cx
  intro H locs ls hH hL hl
  exact lv_imul hx hb hd (kk H locs ls hH hL hl)
theorem am_iand (cx : am_Ctx l R y cc nL ret ov M' mc ms G) {x z : Int32} (hd : decode cc pc = .ok (.iand, 1)) (kk : G (pc + 1) lv (.inl (x &&& z) :: st) M k n) : G pc lv (.inl z :: .inl x :: st) M k n := by
  obtain ⟨p, e, s, m, args, below, meth, c, B, ad, H0, D, cy, Q, rfl, hQ, hx, hb, hml, hown, hT, hK, hr, hlk, hnm⟩ := cx
  intro H locs ls hH hL hl
  exact lv_iand hx hb hd (kk H locs ls hH hL hl)
theorem am_ior (cx : am_Ctx l R y cc nL ret ov M' mc ms G) {x z : Int32} (hd : decode cc pc = .ok (.ior, 1)) (kk : G (pc + 1) lv (.inl (x ||| z) :: st) M k n) : G pc lv (.inl z :: .inl x :: st) M k n := by
  obtain ⟨p, e, s, m, args, below, meth, c, B, ad, H0, D, cy, Q, rfl, hQ, hx, hb, hml, hown, hT, hK, hr, hlk, hnm⟩ := cx
  intro H locs ls hH hL hl
  exact lv_ior hx hb hd (kk H locs ls hH hL hl)
theorem am_ishr (cx : am_Ctx l R y cc nL ret ov M' mc ms G) {x z : Int32} (hd : decode cc pc = .ok (.ishr, 1)) (kk : G (pc + 1) lv (.inl (x >>> (z &&& 31)) :: st) M k n) : G pc lv (.inl z :: .inl x :: st) M k n := by
  obtain ⟨p, e, s, m, args, below, meth, c, B, ad, H0, D, cy, Q, rfl, hQ, hx, hb, hml, hown, hT, hK, hr, hlk, hnm⟩ := cx
  intro H locs ls hH hL hl
  exact lv_ishr hx hb hd (kk H locs ls hH hL hl)
theorem am_idiv (cx : am_Ctx l R y cc nL ret ov M' mc ms G) {x z : Int32} (hd : decode cc pc = .ok (.idiv, 1)) (hz : ¬ z = 0) (kk : G (pc + 1) lv (.inl (x / z) :: st) M k n) : G pc lv (.inl z :: .inl x :: st) M k n := by
  obtain ⟨p, e, s, m, args, below, meth, c, B, ad, H0, D, cy, Q, rfl, hQ, hx, hb, hml, hown, hT, hK, hr, hlk, hnm⟩ := cx
  intro H locs ls hH hL hl
  exact lv_idiv hx hb hd hz (kk H locs ls hH hL hl)
theorem am_irem (cx : am_Ctx l R y cc nL ret ov M' mc ms G) {x z : Int32} (hd : decode cc pc = .ok (.irem, 1)) (hz : ¬ z = 0) (kk : G (pc + 1) lv (.inl (x - x / z * z) :: st) M k n) : G pc lv (.inl z :: .inl x :: st) M k n := by
  obtain ⟨p, e, s, m, args, below, meth, c, B, ad, H0, D, cy, Q, rfl, hQ, hx, hb, hml, hown, hT, hK, hr, hlk, hnm⟩ := cx
  intro H locs ls hH hL hl
  exact lv_irem hx hb hd hz (kk H locs ls hH hL hl)
theorem am_ladd (cx : am_Ctx l R y cc nL ret ov M' mc ms G) {x z : Int64} (hd : decode cc pc = .ok (.ladd, 1)) (kk : G (pc + 1) lv (.inr (.inl (x + z)) :: st) M k n) : G pc lv (.inr (.inl z) :: .inr (.inl x) :: st) M k n := by
  obtain ⟨p, e, s, m, args, below, meth, c, B, ad, H0, D, cy, Q, rfl, hQ, hx, hb, hml, hown, hT, hK, hr, hlk, hnm⟩ := cx
  intro H locs ls hH hL hl
  exact lv_ladd hx hb hd (kk H locs ls hH hL hl)
theorem am_lsub (cx : am_Ctx l R y cc nL ret ov M' mc ms G) {x z : Int64} (hd : decode cc pc = .ok (.lsub, 1)) (kk : G (pc + 1) lv (.inr (.inl (x - z)) :: st) M k n) : G pc lv (.inr (.inl z) :: .inr (.inl x) :: st) M k n := by
  obtain ⟨p, e, s, m, args, below, meth, c, B, ad, H0, D, cy, Q, rfl, hQ, hx, hb, hml, hown, hT, hK, hr, hlk, hnm⟩ := cx
  intro H locs ls hH hL hl
  exact lv_lsub hx hb hd (kk H locs ls hH hL hl)
theorem am_lmul (cx : am_Ctx l R y cc nL ret ov M' mc ms G) {x z : Int64} (hd : decode cc pc = .ok (.lmul, 1)) (kk : G (pc + 1) lv (.inr (.inl (x * z)) :: st) M k n) : G pc lv (.inr (.inl z) :: .inr (.inl x) :: st) M k n := by
  obtain ⟨p, e, s, m, args, below, meth, c, B, ad, H0, D, cy, Q, rfl, hQ, hx, hb, hml, hown, hT, hK, hr, hlk, hnm⟩ := cx
  intro H locs ls hH hL hl
  exact lv_lmul hx hb hd (kk H locs ls hH hL hl)
theorem am_lor (cx : am_Ctx l R y cc nL ret ov M' mc ms G) {x z : Int64} (hd : decode cc pc = .ok (.lor, 1)) (kk : G (pc + 1) lv (.inr (.inl (x ||| z)) :: st) M k n) : G pc lv (.inr (.inl z) :: .inr (.inl x) :: st) M k n := by
  obtain ⟨p, e, s, m, args, below, meth, c, B, ad, H0, D, cy, Q, rfl, hQ, hx, hb, hml, hown, hT, hK, hr, hlk, hnm⟩ := cx
  intro H locs ls hH hL hl
  exact lv_lor hx hb hd (kk H locs ls hH hL hl)
theorem am_ldiv (cx : am_Ctx l R y cc nL ret ov M' mc ms G) {x z : Int64} (hd : decode cc pc = .ok (.ldiv, 1)) (hz : ¬ z = 0) (kk : G (pc + 1) lv (.inr (.inl (x / z)) :: st) M k n) : G pc lv (.inr (.inl z) :: .inr (.inl x) :: st) M k n := by
  obtain ⟨p, e, s, m, args, below, meth, c, B, ad, H0, D, cy, Q, rfl, hQ, hx, hb, hml, hown, hT, hK, hr, hlk, hnm⟩ := cx
  intro H locs ls hH hL hl
  exact lv_ldiv hx hb hd hz (kk H locs ls hH hL hl)
theorem am_lrem (cx : am_Ctx l R y cc nL ret ov M' mc ms G) {x z : Int64} (hd : decode cc pc = .ok (.lrem, 1)) (hz : ¬ z = 0) (kk : G (pc + 1) lv (.inr (.inl (x - x / z * z)) :: st) M k n) : G pc lv (.inr (.inl z) :: .inr (.inl x) :: st) M k n := by
  obtain ⟨p, e, s, m, args, below, meth, c, B, ad, H0, D, cy, Q, rfl, hQ, hx, hb, hml, hown, hT, hK, hr, hlk, hnm⟩ := cx
  intro H locs ls hH hL hl
  exact lv_lrem hx hb hd hz (kk H locs ls hH hL hl)
theorem am_lshl (cx : am_Ctx l R y cc nL ret ov M' mc ms G) {x : Int64} {z : Int32} (hd : decode cc pc = .ok (.lshl, 1)) (kk : G (pc + 1) lv (.inr (.inl (x <<< (z.toInt64 &&& 63))) :: st) M k n) : G pc lv (.inl z :: .inr (.inl x) :: st) M k n := by
  obtain ⟨p, e, s, m, args, below, meth, c, B, ad, H0, D, cy, Q, rfl, hQ, hx, hb, hml, hown, hT, hK, hr, hlk, hnm⟩ := cx
  intro H locs ls hH hL hl
  exact lv_lshl hx hb hd rfl (kk H locs ls hH hL hl)
theorem am_ineg (cx : am_Ctx l R y cc nL ret ov M' mc ms G) {x : Int32} (hd : decode cc pc = .ok (.ineg, 1)) (kk : G (pc + 1) lv (.inl (-x) :: st) M k n) : G pc lv (.inl x :: st) M k n := by
  obtain ⟨p, e, s, m, args, below, meth, c, B, ad, H0, D, cy, Q, rfl, hQ, hx, hb, hml, hown, hT, hK, hr, hlk, hnm⟩ := cx
  intro H locs ls hH hL hl
  exact lv_ineg hx hb hd (kk H locs ls hH hL hl)
theorem am_lneg (cx : am_Ctx l R y cc nL ret ov M' mc ms G) {x : Int64} (hd : decode cc pc = .ok (.lneg, 1)) (kk : G (pc + 1) lv (.inr (.inl (-x)) :: st) M k n) : G pc lv (.inr (.inl x) :: st) M k n := by
  obtain ⟨p, e, s, m, args, below, meth, c, B, ad, H0, D, cy, Q, rfl, hQ, hx, hb, hml, hown, hT, hK, hr, hlk, hnm⟩ := cx
  intro H locs ls hH hL hl
  exact lv_lneg hx hb hd (kk H locs ls hH hL hl)
theorem am_i2l (cx : am_Ctx l R y cc nL ret ov M' mc ms G) {x : Int32} (hd : decode cc pc = .ok (.i2l, 1)) (kk : G (pc + 1) lv (.inr (.inl x.toInt64) :: st) M k n) : G pc lv (.inl x :: st) M k n := by
  obtain ⟨p, e, s, m, args, below, meth, c, B, ad, H0, D, cy, Q, rfl, hQ, hx, hb, hml, hown, hT, hK, hr, hlk, hnm⟩ := cx
  intro H locs ls hH hL hl
  exact lv_i2l hx hb hd rfl (kk H locs ls hH hL hl)
theorem am_l2i (cx : am_Ctx l R y cc nL ret ov M' mc ms G) {x : Int64} (hd : decode cc pc = .ok (.l2i, 1)) (kk : G (pc + 1) lv (.inl x.toInt32 :: st) M k n) : G pc lv (.inr (.inl x) :: st) M k n := by
  obtain ⟨p, e, s, m, args, below, meth, c, B, ad, H0, D, cy, Q, rfl, hQ, hx, hb, hml, hown, hT, hK, hr, hlk, hnm⟩ := cx
  intro H locs ls hH hL hl
  exact lv_l2i hx hb hd rfl (kk H locs ls hH hL hl)
theorem am_i2b (cx : am_Ctx l R y cc nL ret ov M' mc ms G) {x : Int32} (hd : decode cc pc = .ok (.i2b, 1)) (kk : G (pc + 1) lv (.inl x.toInt8.toInt32 :: st) M k n) : G pc lv (.inl x :: st) M k n := by
  obtain ⟨p, e, s, m, args, below, meth, c, B, ad, H0, D, cy, Q, rfl, hQ, hx, hb, hml, hown, hT, hK, hr, hlk, hnm⟩ := cx
  intro H locs ls hH hL hl
  exact lv_i2b hx hb hd rfl (kk H locs ls hH hL hl)
theorem am_lcmp (cx : am_Ctx l R y cc nL ret ov M' mc ms G) {x z : Int64} (hd : decode cc pc = .ok (.lcmp, 1)) (kk : G (pc + 1) lv (.inl (lg_cmp x z) :: st) M k n) : G pc lv (.inr (.inl z) :: .inr (.inl x) :: st) M k n := by
  obtain ⟨p, e, s, m, args, below, meth, c, B, ad, H0, D, cy, Q, rfl, hQ, hx, hb, hml, hown, hT, hK, hr, hlk, hnm⟩ := cx
  intro H locs ls hH hL hl
  exact W.lcmp hx hb hd (kk H locs ls hH hL hl)
theorem am_dup (cx : am_Ctx l R y cc nL ret ov M' mc ms G) {a : am_A} (hd : decode cc pc = .ok (.dup, 1)) (ha : am_cat a = 1) (kk : G (pc + 1) lv (a :: a :: st) M k n) : G pc lv (a :: st) M k n := by
  obtain ⟨p, e, s, m, args, below, meth, c, B, ad, H0, D, cy, Q, rfl, hQ, hx, hb, hml, hown, hT, hK, hr, hlk, hnm⟩ := cx
  intro H locs ls hH hL hl
  exact lv_dup hx hb hd (by rw [am_v_cat]; exact ha) (kk H locs ls hH hL hl)
theorem am_dup2 (cx : am_Ctx l R y cc nL ret ov M' mc ms G) {a b : am_A} (hd : decode cc pc = .ok (.dup2, 1)) (ha : am_cat a = 1) (hb2 : am_cat b = 1) (kk : G (pc + 1) lv (a :: b :: a :: b :: st) M k n) : G pc lv (a :: b :: st) M k n := by
  obtain ⟨p, e, s, m, args, below, meth, c, B, ad, H0, D, cy, Q, rfl, hQ, hx, hb, hml, hown, hT, hK, hr, hlk, hnm⟩ := cx
  intro H locs ls hH hL hl
  exact lv_dup2_11 hx hb hd (by rw [am_v_cat]; exact ha) (by rw [am_v_cat]; exact hb2) (kk H locs ls hH hL hl)
theorem am_dup2l (cx : am_Ctx l R y cc nL ret ov M' mc ms G) {a : am_A} (hd : decode cc pc = .ok (.dup2, 1)) (ha : am_cat a = 2) (kk : G (pc + 1) lv (a :: a :: st) M k n) : G pc lv (a :: st) M k n := by
  obtain ⟨p, e, s, m, args, below, meth, c, B, ad, H0, D, cy, Q, rfl, hQ, hx, hb, hml, hown, hT, hK, hr, hlk, hnm⟩ := cx
  intro H locs ls hH hL hl
  exact lv_dup2_2 hx hb hd (by rw [am_v_cat]; exact ha) (kk H locs ls hH hL hl)
theorem am_goto (cx : am_Ctx l R y cc nL ret ov M' mc ms G) {off : Int} {tgt : Nat} (hd : decode cc pc = .ok (.goto off, 3)) (ht : (pc : Int) + off = (tgt : Int)) (kk : G tgt lv (st) M k n) : G pc lv (st) M k n := by
  obtain ⟨p, e, s, m, args, below, meth, c, B, ad, H0, D, cy, Q, rfl, hQ, hx, hb, hml, hown, hT, hK, hr, hlk, hnm⟩ := cx
  intro H locs ls hH hL hl
  exact lv_goto hx hb hd ht (kk H locs ls hH hL hl)
theorem am_if_eq (cx : am_Ctx l R y cc nL ret ov M' mc ms G) {x : Int32} {off : Int} {tgt : Nat} (hd : decode cc pc = .ok (.ifCond .eq off, 3)) (ht : (pc : Int) + off = (tgt : Int)) (kt : x = 0 → G tgt lv st M k n) (kf : ¬ x = 0 → G (pc + 3) lv st M k n) : G pc lv (.inl x :: st) M k n := by
  obtain ⟨p, e, s, m, args, below, meth, c, B, ad, H0, D, cy, Q, rfl, hQ, hx, hb, hml, hown, hT, hK, hr, hlk, hnm⟩ := cx
  intro H locs ls hH hL hl
  exact lv_if_eq hx hb hd ht (fun h => kt h H locs ls hH hL hl) (fun h => kf h H locs ls hH hL hl)
theorem am_if_ne (cx : am_Ctx l R y cc nL ret ov M' mc ms G) {x : Int32} {off : Int} {tgt : Nat} (hd : decode cc pc = .ok (.ifCond .ne off, 3)) (ht : (pc : Int) + off = (tgt : Int)) (kt : ¬ x = 0 → G tgt lv st M k n) (kf : x = 0 → G (pc + 3) lv st M k n) : G pc lv (.inl x :: st) M k n := by
  obtain ⟨p, e, s, m, args, below, meth, c, B, ad, H0, D, cy, Q, rfl, hQ, hx, hb, hml, hown, hT, hK, hr, hlk, hnm⟩ := cx
  intro H locs ls hH hL hl
  exact lv_if_ne hx hb hd ht (fun h => kt h H locs ls hH hL hl) (fun h => kf h H locs ls hH hL hl)
theorem am_if_lt (cx : am_Ctx l R y cc nL ret ov M' mc ms G) {x : Int32} {off : Int} {tgt : Nat} (hd : decode cc pc = .ok (.ifCond .lt off, 3)) (ht : (pc : Int) + off = (tgt : Int)) (kt : x < 0 → G tgt lv st M k n) (kf : ¬ x < 0 → G (pc + 3) lv st M k n) : G pc lv (.inl x :: st) M k n := by
  obtain ⟨p, e, s, m, args, below, meth, c, B, ad, H0, D, cy, Q, rfl, hQ, hx, hb, hml, hown, hT, hK, hr, hlk, hnm⟩ := cx
  intro H locs ls hH hL hl
  exact lv_if_lt hx hb hd ht (fun h => kt h H locs ls hH hL hl) (fun h => kf h H locs ls hH hL hl)
theorem am_if_ge (cx : am_Ctx l R y cc nL ret ov M' mc ms G) {x : Int32} {off : Int} {tgt : Nat} (hd : decode cc pc = .ok (.ifCond .ge off, 3)) (ht : (pc : Int) + off = (tgt : Int)) (kt : 0 ≤ x → G tgt lv st M k n) (kf : ¬ 0 ≤ x → G (pc + 3) lv st M k n) : G pc lv (.inl x :: st) M k n := by
  obtain ⟨p, e, s, m, args, below, meth, c, B, ad, H0, D, cy, Q, rfl, hQ, hx, hb, hml, hown, hT, hK, hr, hlk, hnm⟩ := cx
  intro H locs ls hH hL hl
  exact lv_if_ge hx hb hd ht (fun h => kt h H locs ls hH hL hl) (fun h => kf h H locs ls hH hL hl)
theorem am_if_gt (cx : am_Ctx l R y cc nL ret ov M' mc ms G) {x : Int32} {off : Int} {tgt : Nat} (hd : decode cc pc = .ok (.ifCond .gt off, 3)) (ht : (pc : Int) + off = (tgt : Int)) (kt : 0 < x → G tgt lv st M k n) (kf : ¬ 0 < x → G (pc + 3) lv st M k n) : G pc lv (.inl x :: st) M k n := by
  obtain ⟨p, e, s, m, args, below, meth, c, B, ad, H0, D, cy, Q, rfl, hQ, hx, hb, hml, hown, hT, hK, hr, hlk, hnm⟩ := cx
  intro H locs ls hH hL hl
  exact lv_if_gt hx hb hd ht (fun h => kt h H locs ls hH hL hl) (fun h => kf h H locs ls hH hL hl)
theorem am_if_le (cx : am_Ctx l R y cc nL ret ov M' mc ms G) {x : Int32} {off : Int} {tgt : Nat} (hd : decode cc pc = .ok (.ifCond .le off, 3)) (ht : (pc : Int) + off = (tgt : Int)) (kt : x ≤ 0 → G tgt lv st M k n) (kf : ¬ x ≤ 0 → G (pc + 3) lv st M k n) : G pc lv (.inl x :: st) M k n := by
  obtain ⟨p, e, s, m, args, below, meth, c, B, ad, H0, D, cy, Q, rfl, hQ, hx, hb, hml, hown, hT, hK, hr, hlk, hnm⟩ := cx
  intro H locs ls hH hL hl
  exact lv_if_le hx hb hd ht (fun h => kt h H locs ls hH hL hl) (fun h => kf h H locs ls hH hL hl)
theorem am_icmp_eq (cx : am_Ctx l R y cc nL ret ov M' mc ms G) {x z : Int32} {off : Int} {tgt : Nat} (hd : decode cc pc = .ok (.if_icmp .eq off, 3)) (ht : (pc : Int) + off = (tgt : Int)) (kt : x = z → G tgt lv st M k n) (kf : ¬ x = z → G (pc + 3) lv st M k n) : G pc lv (.inl z :: .inl x :: st) M k n := by
  obtain ⟨p, e, s, m, args, below, meth, c, B, ad, H0, D, cy, Q, rfl, hQ, hx, hb, hml, hown, hT, hK, hr, hlk, hnm⟩ := cx
  intro H locs ls hH hL hl
  exact lv_icmp_eq hx hb hd ht (fun h => kt h H locs ls hH hL hl) (fun h => kf h H locs ls hH hL hl)
theorem am_icmp_ne (cx : am_Ctx l R y cc nL ret ov M' mc ms G) {x z : Int32} {off : Int} {tgt : Nat} (hd : decode cc pc = .ok (.if_icmp .ne off, 3)) (ht : (pc : Int) + off = (tgt : Int)) (kt : ¬ x = z → G tgt lv st M k n) (kf : x = z → G (pc + 3) lv st M k n) : G pc lv (.inl z :: .inl x :: st) M k n := by
  obtain ⟨p, e, s, m, args, below, meth, c, B, ad, H0, D, cy, Q, rfl, hQ, hx, hb, hml, hown, hT, hK, hr, hlk, hnm⟩ := cx
  intro H locs ls hH hL hl
  exact lv_icmp_ne hx hb hd ht (fun h => kt h H locs ls hH hL hl) (fun h => kf h H locs ls hH hL hl)
theorem am_icmp_lt (cx : am_Ctx l R y cc nL ret ov M' mc ms G) {x z : Int32} {off : Int} {tgt : Nat} (hd : decode cc pc = .ok (.if_icmp .lt off, 3)) (ht : (pc : Int) + off = (tgt : Int)) (kt : x < z → G tgt lv st M k n) (kf : ¬ x < z → G (pc + 3) lv st M k n) : G pc lv (.inl z :: .inl x :: st) M k n := by
  obtain ⟨p, e, s, m, args, below, meth, c, B, ad, H0, D, cy, Q, rfl, hQ, hx, hb, hml, hown, hT, hK, hr, hlk, hnm⟩ := cx
  intro H locs ls hH hL hl
  exact lv_icmp_lt hx hb hd ht (fun h => kt h H locs ls hH hL hl) (fun h => kf h H locs ls hH hL hl)
theorem am_icmp_ge (cx : am_Ctx l R y cc nL ret ov M' mc ms G) {x z : Int32} {off : Int} {tgt : Nat} (hd : decode cc pc = .ok (.if_icmp .ge off, 3)) (ht : (pc : Int) + off = (tgt : Int)) (kt : z ≤ x → G tgt lv st M k n) (kf : ¬ z ≤ x → G (pc + 3) lv st M k n) : G pc lv (.inl z :: .inl x :: st) M k n := by
  obtain ⟨p, e, s, m, args, below, meth, c, B, ad, H0, D, cy, Q, rfl, hQ, hx, hb, hml, hown, hT, hK, hr, hlk, hnm⟩ := cx
  intro H locs ls hH hL hl
  exact lv_icmp_ge hx hb hd ht (fun h => kt h H locs ls hH hL hl) (fun h => kf h H locs ls hH hL hl)
theorem am_icmp_gt (cx : am_Ctx l R y cc nL ret ov M' mc ms G) {x z : Int32} {off : Int} {tgt : Nat} (hd : decode cc pc = .ok (.if_icmp .gt off, 3)) (ht : (pc : Int) + off = (tgt : Int)) (kt : z < x → G tgt lv st M k n) (kf : ¬ z < x → G (pc + 3) lv st M k n) : G pc lv (.inl z :: .inl x :: st) M k n := by
  obtain ⟨p, e, s, m, args, below, meth, c, B, ad, H0, D, cy, Q, rfl, hQ, hx, hb, hml, hown, hT, hK, hr, hlk, hnm⟩ := cx
  intro H locs ls hH hL hl
  exact lv_icmp_gt hx hb hd ht (fun h => kt h H locs ls hH hL hl) (fun h => kf h H locs ls hH hL hl)
theorem am_icmp_le (cx : am_Ctx l R y cc nL ret ov M' mc ms G) {x z : Int32} {off : Int} {tgt : Nat} (hd : decode cc pc = .ok (.if_icmp .le off, 3)) (ht : (pc : Int) + off = (tgt : Int)) (kt : x ≤ z → G tgt lv st M k n) (kf : ¬ x ≤ z → G (pc + 3) lv st M k n) : G pc lv (.inl z :: .inl x :: st) M k n := by
  obtain ⟨p, e, s, m, args, below, meth, c, B, ad, H0, D, cy, Q, rfl, hQ, hx, hb, hml, hown, hT, hK, hr, hlk, hnm⟩ := cx
  intro H locs ls hH hL hl
  exact lv_icmp_le hx hb hd ht (fun h => kt h H locs ls hH hL hl) (fun h => kf h H locs ls hH hL hl)
theorem am_acmp_ne (cx : am_Ctx l R y cc nL ret ov M' mc ms G) {x z : Nat} {off : Int} {tgt : Nat} (hd : decode cc pc = .ok (.if_acmp .ne off, 3)) (ht : (pc : Int) + off = (tgt : Int)) (kt : ¬ x = z → G tgt lv st M k n) (kf : x = z → G (pc + 3) lv st M k n) : G pc lv (.inr (.inr (.inl z)) :: .inr (.inr (.inl x)) :: st) M k n := by
  obtain ⟨p, e, s, m, args, below, meth, c, B, ad, H0, D, cy, Q, rfl, hQ, hx, hb, hml, hown, hT, hK, hr, hlk, hnm⟩ := cx
  intro H locs ls hH hL hl
  show W p l e R s m args below meth c H locs k n _ (F0 m pc ls (am_rv B z :: am_rv B x :: st.map (am_v B ad)))
  rw [← am_rf B z, ← am_rf B x]
  exact lv_acmp_ne hx hb hd ht (fun h => kt (fun q => h ((am_ro_inj B x z).mpr q)) H locs ls hH hL hl) (fun h => kf ((am_ro_inj B x z).mp h) H locs ls hH hL hl)
theorem am_ifnull (cx : am_Ctx l R y cc nL ret ov M' mc ms G) {x : Nat} {off : Int} {tgt : Nat} (hd : decode cc pc = .ok (.ifnull off, 3)) (ht : (pc : Int) + off = (tgt : Int)) (kt : x = 0 → G tgt lv st M k n) (kf : ¬ x = 0 → G (pc + 3) lv st M k n) : G pc lv (.inr (.inr (.inl x)) :: st) M k n := by
  obtain ⟨p, e, s, m, args, below, meth, c, B, ad, H0, D, cy, Q, rfl, hQ, hx, hb, hml, hown, hT, hK, hr, hlk, hnm⟩ := cx
  intro H locs ls hH hL hl
  show W p l e R s m args below meth c H locs k n _ (F0 m pc ls (am_rv B x :: st.map (am_v B ad)))
  by_cases h0 : x = 0
  · have k1 := kt h0 H locs ls hH hL hl
    subst h0
    exact lv_ifnullN hx hb hd ht k1
  · rw [am_rv_pos B (Nat.pos_of_ne_zero h0)]
    exact lv_ifnull hx hb hd (kf h0 H locs ls hH hL hl)
theorem am_ifnonnull (cx : am_Ctx l R y cc nL ret ov M' mc ms G) {x : Nat} {off : Int} {tgt : Nat} (hd : decode cc pc = .ok (.ifnonnull off, 3)) (ht : (pc : Int) + off = (tgt : Int)) (kt : ¬ x = 0 → G tgt lv st M k n) (kf : x = 0 → G (pc + 3) lv st M k n) : G pc lv (.inr (.inr (.inl x)) :: st) M k n := by
  obtain ⟨p, e, s, m, args, below, meth, c, B, ad, H0, D, cy, Q, rfl, hQ, hx, hb, hml, hown, hT, hK, hr, hlk, hnm⟩ := cx
  intro H locs ls hH hL hl
  show W p l e R s m args below meth c H locs k n _ (F0 m pc ls (am_rv B x :: st.map (am_v B ad)))
  by_cases h0 : x = 0
  · have k1 := kf h0 H locs ls hH hL hl
    subst h0
    exact lv_ifnonnullN hx hb hd k1
  · rw [am_rv_pos B (Nat.pos_of_ne_zero h0)]
    exact lv_ifnonnull hx hb hd ht (kt h0 H locs ls hH hL hl)
theorem am_tableIn (cx : am_Ctx l R y cc nL ret ov M' mc ms G) {dflt lo hi : Int} {offs : Array Int} {len : Nat} {x : Int32} {off : Int} {tgt : Nat} (hd : decode cc pc = .ok (.tableswitch dflt lo hi offs, len)) (h1 : ¬ x.toInt < lo) (h2 : ¬ hi < x.toInt) (ho : offs[(x.toInt - lo).toNat]? = some off) (ht : (pc : Int) + off = (tgt : Int)) (kk : G tgt lv (st) M k n) : G pc lv (.inl x :: st) M k n := by
  obtain ⟨p, e, s, m, args, below, meth, c, B, ad, H0, D, cy, Q, rfl, hQ, hx, hb, hml, hown, hT, hK, hr, hlk, hnm⟩ := cx
  intro H locs ls hH hL hl
  exact lv_tableIn hx hb hd h1 h2 ho ht (kk H locs ls hH hL hl)
theorem am_tableOut (cx : am_Ctx l R y cc nL ret ov M' mc ms G) {dflt lo hi : Int} {offs : Array Int} {len : Nat} {x : Int32} {tgt : Nat} (hd : decode cc pc = .ok (.tableswitch dflt lo hi offs, len)) (h : x.toInt < lo ∨ hi < x.toInt) (ht : (pc : Int) + dflt = (tgt : Int)) (kk : G tgt lv (st) M k n) : G pc lv (.inl x :: st) M k n := by
  obtain ⟨p, e, s, m, args, below, meth, c, B, ad, H0, D, cy, Q, rfl, hQ, hx, hb, hml, hown, hT, hK, hr, hlk, hnm⟩ := cx
  intro H locs ls hH hL hl
  exact lv_tableOut hx hb hd h ht (kk H locs ls hH hL hl)
theorem am_lookup (cx : am_Ctx l R y cc nL ret ov M' mc ms G) {dflt : Int} {ps : Array (Int × Int)} {len : Nat} {x : Int32} {off : Int} {tgt : Nat} (hd : decode cc pc = .ok (.lookupswitch dflt ps, len)) (hp : (ps.toList.zip (ps.toList.drop 1)).all (fun (a, next) => a.1 < next.1) = true) (ho : Op.lookupswitch.offset ps.toList dflt x.toInt = off) (ht : (pc : Int) + off = (tgt : Int)) (kk : G tgt lv (st) M k n) : G pc lv (.inl x :: st) M k n := by
  obtain ⟨p, e, s, m, args, below, meth, c, B, ad, H0, D, cy, Q, rfl, hQ, hx, hb, hml, hown, hT, hK, hr, hlk, hnm⟩ := cx
  intro H locs ls hH hL hl
  exact lv_lookup hx hb hd hp ho ht (kk H locs ls hH hL hl)
theorem am_sub (cx : am_Ctx l R y cc nL ret ov M' mc ms G) {lv' : List (Nat × am_A)} (ks : List Nat) (hs : am_pick lv ks = lv') (kk : G pc lv' st M k n) : G pc lv st M k n := by
  obtain ⟨p, e, s, m, args, below, meth, c, B, ad, H0, D, cy, Q, rfl, hQ, hx, hb, hml, hown, hT, hK, hr, hlk, hnm⟩ := cx
  intro H locs ls hH hL hl
  exact kk H locs ls hH hL (am_pick_has ks hs hl)
theorem am_widen (cx : am_Ctx l R y cc nL ret ov M' mc ms G) {k' n' : Nat} (h1 : k ≤ k') (h2 : n ≤ n') (kk : G pc lv st M k' n') : G pc lv st M k n := by
  obtain ⟨p, e, s, m, args, below, meth, c, B, ad, H0, D, cy, Q, rfl, hQ, hx, hb, hml, hown, hT, hK, hr, hlk, hnm⟩ := cx
  intro H locs ls hH hL hl
  exact W.widen h1 h2 (kk H locs ls hH hL hl)
theorem am_iret {x : Int32} (cx : am_Ctx l R y cc nL (some .int) (some (.inl x)) M mc ms G) (hd : decode cc pc = .ok (.ireturn, 1)) : G pc lv [.inl x] M mc ms := by
  obtain ⟨p, e, s, m, args, below, meth, c, B, ad, H0, D, cy, Q, rfl, hQ, hx, hb, hml, hown, hT, hK, hr, hlk, hnm⟩ := cx
  intro H locs ls hH hL hl
  exact am_mono hQ (W.iret hx hb hr (fun t ht _ => ⟨rfl, by rw [ht]; exact hH⟩) hL hd hlk)
theorem am_zret {x : Int32} (cx : am_Ctx l R y cc nL (some .boolean) (some (.inl x)) M mc ms G) (hx01 : (x == 0 || x == 1) = true) (hd : decode cc pc = .ok (.ireturn, 1)) : G pc lv [.inl x] M mc ms := by
  obtain ⟨p, e, s, m, args, below, meth, c, B, ad, H0, D, cy, Q, rfl, hQ, hx, hb, hml, hown, hT, hK, hr, hlk, hnm⟩ := cx
  intro H locs ls hH hL hl
  refine am_mono hQ (W.zret hx hb hr ?_ (fun t ht _ => ⟨rfl, by rw [ht]; exact hH⟩) hL hd hlk)
  rcases (Bool.or_eq_true _ _).mp hx01 with h | h <;> (have h := eq_of_beq h; subst h; rfl)
theorem am_lret {x : Int64} (cx : am_Ctx l R y cc nL (some .long) (some (.inr (.inl x))) M mc ms G) (hd : decode cc pc = .ok (.lreturn, 1)) : G pc lv [.inr (.inl x)] M mc ms := by
  obtain ⟨p, e, s, m, args, below, meth, c, B, ad, H0, D, cy, Q, rfl, hQ, hx, hb, hml, hown, hT, hK, hr, hlk, hnm⟩ := cx
  intro H locs ls hH hL hl
  exact am_mono hQ (W.lret hx hb hr (fun t ht _ => ⟨rfl, by rw [ht]; exact hH⟩) hL hd hlk)
theorem am_aret {x : Nat} {C : String} (cx : am_Ctx l R y cc nL (some (.object C)) (some (.inr (.inr (.inl x)))) M mc ms G) (hd : decode cc pc = .ok (.areturn, 1)) : G pc lv [.inr (.inr (.inl x))] M mc ms := by
  obtain ⟨p, e, s, m, args, below, meth, c, B, ad, H0, D, cy, Q, rfl, hQ, hx, hb, hml, hown, hT, hK, hr, hlk, hnm⟩ := cx
  intro H locs ls hH hL hl
  exact am_mono hQ (W.aret hx hb hr (Or.inl ⟨_, rfl⟩) (am_rv_or B x) (fun t ht _ => ⟨rfl, by rw [ht]; exact hH⟩) hL hd hlk)
theorem am_vret (cx : am_Ctx l R y cc nL none none M mc ms G) (hd : decode cc pc = .ok (.return_, 1)) : G pc lv [] M mc ms := by
  obtain ⟨p, e, s, m, args, below, meth, c, B, ad, H0, D, cy, Q, rfl, hQ, hx, hb, hml, hown, hT, hK, hr, hlk, hnm⟩ := cx
  intro H locs ls hH hL hl
  exact am_mono hQ (W.vret hx hb hr (fun t ht _ => ⟨rfl, by rw [ht]; exact hH⟩) hL hd hlk)
end AMR
