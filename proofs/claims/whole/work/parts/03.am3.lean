/-! rows that read or write the memory -/
def am_in (i : Int32) (n : Nat) : Bool := decide (¬ i < 0) && decide (i.toNatClampNeg < n)
theorem am_in_lt {i : Int32} {n : Nat} (h : am_in i n = true) : i.toNatClampNeg < n := of_decide_eq_true ((Bool.and_eq_true _ _).mp h).2
theorem am_in_vp {i : Int32} {n : Nat} (h : am_in i n = true) : vp_in i n := by
  obtain ⟨h1, h2⟩ := (Bool.and_eq_true _ _).mp h
  have h1 := of_decide_eq_true h1
  have h2 := of_decide_eq_true h2
  rintro (q | q)
  · exact h1 q
  · omega
/-- a field as an instruction of a class names it: kind, place, sort -/
def am_F (own : String) (idx kd j t : Nat) : Prop := ∃ (C : String) (T : u_T) (N : Nat), vwCl[kd]? = some (C, T, N) ∧ j < N ∧ (∀ w ∈ u_ws C T N, am_w w) ∧ am_w (.fieldLink own idx (T j).1 (T j).2.1 (T j).2.2.1) ∧ am_ft kd j = t ∧ kd < 13 ∧ am_Nk kd = N
/-- .. and what a store of it needs -/
def am_FP (own : String) (idx kd j t : Nat) (ty : FieldType) (fin : Bool) : Prop := ∃ (C : String) (T : u_T) (N : Nat) (ty0 : Nat → FieldType), vwCl[kd]? = some (C, T, N) ∧ j < N ∧ (∀ w ∈ u_ws C T N, am_w w) ∧ am_w (.fieldLink own idx (T j).1 (T j).2.1 (T j).2.2.1) ∧ am_ft kd j = t ∧ kd < 13 ∧ am_Nk kd = N ∧
  (∀ i, i < N → parseFieldDescriptor (T i).2.2.1 = some (ty0 i)) ∧ (∀ a, a < N → ∀ b, b < N → a ≠ b → (T a).2.1 ≠ (T b).2.1) ∧ ty0 j = ty ∧ (T j).2.2.2 = fin ∧ (T j).1 = C ∧ (fin = true → C = own)
section AMH
variable {l : Launch} {R : Room} {y : MethodName} {cc : ByteArray} {nL : Nat} {ret : Option FieldType} {ov : Option am_A} {M' : am_Mem} {mc ms : Nat} {G : am_G} {pc : Nat} {lv : List (Nat × am_A)} {st : List am_A} {M : am_Mem} {k n : Nat}
theorem am_get0 (cx : am_Ctx l R y cc nL ret ov M' mc ms G) {r kd j idx t : Nat} (hd : decode cc pc = .ok (.getfield idx, 3)) (hF : am_F y.cls idx kd j t) (hk : am_K M r = kd) (v : am_A) (hv : ∀ (B : Nat) (ad : Nat → Option Nat), am_V B kd M r j = am_v B ad v) (kk : G (pc + 3) lv (v :: st) M k n) : G pc lv (.inr (.inr (.inl r)) :: st) M k n := by
  obtain ⟨p, e, s, m, args, below, meth, c, B, ad, H0, D, cy, Q, rfl, hQ, hx, hb, hml, hown, hT, hK, hr, hlk, hnm⟩ := cx
  intro H locs ls hH hL hl
  obtain ⟨C, T, N, hc, hj, hin, hl2, hf, h13, hN⟩ := hF
  have hpos := hH.lives (r := r) (by rw [hk]; omega)
  have h1 := hH.2.2.1 r hpos.1 hpos.2
  rw [am_at_obj hk h13] at h1
  obtain ⟨cell, q1, q2, q3, q4⟩ := h1
  obtain ⟨hS, hfc, kC, hkC, hkind⟩ := hK.1 kd _ hc
  obtain ⟨cf, kf, fi, f, hi, hsl⟩ := hS j hj
  have hts : ∀ w ∈ u_ws C T N, w.before args s = true := fun w h => hT.1 w (hin w h) args
  show W p l e R s m args below meth c H locs k n _ (F0 m pc ls (am_rv B r :: st.map (am_v B ad)))
  rw [am_rv_pos B hpos.1]
  refine W.getf hx hb hown (hT.1 _ hl2 args) hi (u_facts hfc hkC (u_lays hts (fun w h => h) hj) hi).1 q1 (by rw [q3]; exact fun h => by cases h) (v := am_v B ad v) ?_ rfl rfl hd (kk H locs ls hH hL hl)
  rw [hsl, q4 j (by rw [hN]; exact hj), hv B ad]
theorem am_getI (cx : am_Ctx l R y cc nL ret ov M' mc ms G) {r kd j idx : Nat} (hd : decode cc pc = .ok (.getfield idx, 3)) (hF : am_F y.cls idx kd j 0) (hk : am_K M r = kd) (kk : G (pc + 3) lv (.inl (am_I M r j) :: st) M k n) : G pc lv (.inr (.inr (.inl r)) :: st) M k n := by
  refine am_get0 cx hd hF hk _ (fun B ad => ?_) kk
  obtain ⟨C, T, N, -, -, -, -, hf, -⟩ := hF
  unfold am_V
  rw [if_pos hf]
  rfl
theorem am_getJ (cx : am_Ctx l R y cc nL ret ov M' mc ms G) {r kd j idx : Nat} (hd : decode cc pc = .ok (.getfield idx, 3)) (hF : am_F y.cls idx kd j 1) (hk : am_K M r = kd) (kk : G (pc + 3) lv (.inr (.inl (am_J M r j)) :: st) M k n) : G pc lv (.inr (.inr (.inl r)) :: st) M k n := by
  refine am_get0 cx hd hF hk _ (fun B ad => ?_) kk
  obtain ⟨C, T, N, -, -, -, -, hf, -⟩ := hF
  unfold am_V
  rw [hf]
  rfl
theorem am_getR (cx : am_Ctx l R y cc nL ret ov M' mc ms G) {r kd j idx : Nat} (hd : decode cc pc = .ok (.getfield idx, 3)) (hF : am_F y.cls idx kd j 2) (hk : am_K M r = kd) (kk : G (pc + 3) lv (.inr (.inr (.inl (am_R M r j))) :: st) M k n) : G pc lv (.inr (.inr (.inl r)) :: st) M k n := by
  refine am_get0 cx hd hF hk _ (fun B ad => ?_) kk
  obtain ⟨C, T, N, -, -, -, -, hf, -⟩ := hF
  unfold am_V
  rw [hf]
  rfl
theorem am_put0 (cx : am_Ctx l R y cc nL ret ov M' mc ms G) {r kd j idx t : Nat} {ty : FieldType} {fin : Bool} (hd : decode cc pc = .ok (.putfield idx, 3)) (hF : am_FP y.cls idx kd j t ty fin) (hfin : fin = true → y.name = "<init>") (hk : am_K M r = kd) {v : am_A} {M2 : am_Mem} (hn : ∀ (B : Nat) (ad : Nat → Option Nat), narrow ty (am_v B ad v) = am_v B ad v) (hfit : ∀ (B : Nat) (ad : Nat → Option Nat), fits ty (am_v B ad v) = true)
    (h2n : am_n M2 = am_n M) (h2K : am_K M2 = am_K M) (h2L : am_L M2 = am_L M) (h2I : ∀ b, b ≠ r → am_I M2 b = am_I M b) (h2J : ∀ b, b ≠ r → am_J M2 b = am_J M b) (h2R : ∀ b, b ≠ r → am_R M2 b = am_R M b) (h2V : ∀ (B : Nat) (ad : Nat → Option Nat) (i : Nat), updV (am_V B kd M r) j (am_v B ad v) i = am_V B kd M2 r i) (kk : G (pc + 3) lv st M2 k n) : G pc lv (v :: .inr (.inr (.inl r)) :: st) M k n := by
  obtain ⟨p, e, s, m, args, below, meth, c, B, ad, H0, D, cy, Q, rfl, hQ, hx, hb, hml, hown, hT, hK, hr, hlk, hnm⟩ := cx
  intro H locs ls hH hL hl
  obtain ⟨C, T, N, ty0, hc, hj, hin, hl2, hf, h13, hN, hty, hnd, htj, hfi, hdecl, hfo⟩ := hF
  have hpos := hH.lives (r := r) (by rw [hk]; omega)
  have h1 := hH.2.2.1 r hpos.1 hpos.2
  rw [am_at_obj hk h13] at h1
  obtain ⟨cell, q1, q2, q3, q4⟩ := h1
  have hK1 := hK
  obtain ⟨hS, hfc, kC, hkC, hkind⟩ := hK.1 kd _ hc
  obtain ⟨cf, kf, fi, f, hi, hsl⟩ := hS j hj
  have hts : ∀ w ∈ u_ws C T N, w.before args s = true := fun w h => hT.1 w (hin w h) args
  have hap := va_apart (own := y.cls) hts (fun w h => h) ty0 hty hnd hK1 hc
  have hdj : parseFieldDescriptor (T j).2.2.1 = some ty := by rw [hty j hj, htj]
  have hst := (u_facts hfc hkC (u_lays hts (fun w h => h) hj) hi).1
  have fin2 : ∀ H' : Heap, H'[B + r]? = some (cell.setSlot f.slot (am_v B ad v)) → H'.size = H.size → (∀ q, q ≠ B + r → H'[q]? = H[q]?) → W p l e R s m args below meth c H' (locs ++ [⟨B + r, f.slot⟩]) k n Q (F0 m (pc + 3) ls (st.map (am_v B ad))) := by
    intro H' e1 e2 e3
    refine kk H' _ ls (hH.put h2n h2K h2L h2I h2J h2R hpos.1 e2 e3 ?_) ?_ hl
    · rw [am_at_obj (by rw [h2K]; exact hk) h13]
      rw [hsl] at e1
      exact t_OB.to (V := updV (am_V B kd M r) j (am_v B ad v)) ⟨_, e1, q2, q3, t_set q4 (by rw [hN]; exact hap) (by rw [hN]; exact hj) _⟩ (fun i _ => h2V B ad i)
    · intro q hq
      rcases List.mem_append.mp hq with h | h
      · exact hL q h
      · rw [List.mem_singleton.mp h]
        show B < B + r
        omega
  show W p l e R s m args below meth c H locs k n _ (F0 m pc ls (am_v B ad v :: am_rv B r :: st.map (am_v B ad)))
  rw [am_rv_pos B hpos.1]
  have hlay := hts _ (u_in_lay hj)
  unfold u_lay at hlay
  cases hfb : fin with
  | false =>
    rw [hfb] at hfi
    rw [if_neg (by rw [hfi]; decide)] at hlay
    have h6 := u_store hfc hkC hkind hlay hi hdj (hn B ad) (hfit B ad)
    exact W.putK hx hb (f := f) ⟨hown, hT.1 _ hl2 args, ⟨_, _, _, hi⟩, hst⟩ (by rw [q2]; exact h6) q1 q3 (by rw [hsl]; exact k2_hasslot (q4 j (by rw [hN]; exact hj))) rfl rfl hd fin2
  | true =>
    rw [hfb] at hfi
    rw [if_pos hfi] at hlay
    have hcf : m.cls = cf := by
      obtain ⟨_, _, c', _, _, _, -, -, hf', -, -, -, hown2, -⟩ := Cond.laysFinal_spec hlay
      have e1 : c' = cf := by have := hi.symm.trans hf'; simp at this; exact this.1.symm
      rw [hdecl, hfo hfb] at hown2
      rw [← e1]; exact Option.some.inj (hown.symm.trans hown2)
    have h6 := u_fits hfc hkC hkind (Or.inr hlay) hi hdj (hn B ad) (hfit B ad)
    exact W.putFinK hx hb hown (hT.1 _ hl2 args) hi hst hcf (hnm.trans (hfin hfb)) (by rw [q2]; exact h6) q1 q3 (by rw [hsl]; exact k2_hasslot (q4 j (by rw [hN]; exact hj))) rfl rfl hd fin2
theorem am_putI0 (cx : am_Ctx l R y cc nL ret ov M' mc ms G) {r kd j idx : Nat} {ty : FieldType} {fin : Bool} {x : Int32} (hd : decode cc pc = .ok (.putfield idx, 3)) (hF : am_FP y.cls idx kd j 0 ty fin) (hfin : fin = true → y.name = "<init>") (hn : narrow ty (.int x) = .int x) (hfit : fits ty (.int x) = true) (hk : am_K M r = kd) (kk : G (pc + 3) lv st (am_wI M r j x) k n) : G pc lv (.inl x :: .inr (.inr (.inl r)) :: st) M k n := by
  have hf : am_ft kd j = 0 := by
    obtain ⟨C, T, N, ty0, -, -, -, -, hf, -⟩ := hF
    exact hf
  refine am_put0 cx hd hF hfin hk (v := .inl x) (M2 := am_wI M r j x) (fun _ _ => hn) (fun _ _ => hfit) rfl rfl rfl (fun b h => am_up_ne _ _ _ h) (fun b h => rfl) (fun b h => rfl) (fun B ad i => ?_) kk
  unfold updV am_V
  by_cases hi : i = j
  · subst hi
    rw [if_pos rfl, if_pos hf]
    show Value.int x = Value.int (am_up (am_I M) r i x r i)
    rw [am_up_eq]
  · rw [if_neg hi]
    show _ = if am_ft kd i = 0 then Value.int (am_up (am_I M) r j x r i) else if am_ft kd i = 1 then Value.long (am_J M r i) else am_rv B (am_R M r i)
    rw [am_up_nei _ _ _ hi]
theorem am_putI (cx : am_Ctx l R y cc nL ret ov M' mc ms G) {r kd j idx : Nat} {fin : Bool} {x : Int32} (hd : decode cc pc = .ok (.putfield idx, 3)) (hF : am_FP y.cls idx kd j 0 .int fin) (hfin : fin = true → y.name = "<init>") (hk : am_K M r = kd) (kk : G (pc + 3) lv st (am_wI M r j x) k n) : G pc lv (.inl x :: .inr (.inr (.inl r)) :: st) M k n := am_putI0 cx hd hF hfin rfl rfl hk kk
theorem am_putZ (cx : am_Ctx l R y cc nL ret ov M' mc ms G) {r kd j idx : Nat} {fin : Bool} {x : Int32} (hd : decode cc pc = .ok (.putfield idx, 3)) (hF : am_FP y.cls idx kd j 0 .boolean fin) (hfin : fin = true → y.name = "<init>") (h01 : (x == 0 || x == 1) = true) (hk : am_K M r = kd) (kk : G (pc + 3) lv st (am_wI M r j x) k n) : G pc lv (.inl x :: .inr (.inr (.inl r)) :: st) M k n := by
  refine am_putI0 cx hd hF hfin ?_ h01 hk kk
  rcases (Bool.or_eq_true _ _).mp h01 with h | h <;> (have h := eq_of_beq h; subst h; rfl)
theorem am_putJ (cx : am_Ctx l R y cc nL ret ov M' mc ms G) {r kd j idx : Nat} {fin : Bool} {x : Int64} (hd : decode cc pc = .ok (.putfield idx, 3)) (hF : am_FP y.cls idx kd j 1 .long fin) (hfin : fin = true → y.name = "<init>") (hk : am_K M r = kd) (kk : G (pc + 3) lv st (am_wJ M r j x) k n) : G pc lv (.inr (.inl x) :: .inr (.inr (.inl r)) :: st) M k n := by
  have hf : am_ft kd j = 1 := by
    obtain ⟨C, T, N, ty0, -, -, -, -, hf, -⟩ := hF
    exact hf
  refine am_put0 cx hd hF hfin hk (v := .inr (.inl x)) (M2 := am_wJ M r j x) (fun _ _ => rfl) (fun _ _ => rfl) rfl rfl rfl (fun b h => rfl) (fun b h => am_up_ne _ _ _ h) (fun b h => rfl) (fun B ad i => ?_) kk
  unfold updV am_V
  by_cases hi : i = j
  · subst hi
    rw [if_pos rfl, hf]
    show Value.long x = Value.long (am_up (am_J M) r i x r i)
    rw [am_up_eq]
  · rw [if_neg hi]
    show _ = if am_ft kd i = 0 then Value.int (am_I M r i) else if am_ft kd i = 1 then Value.long (am_up (am_J M) r j x r i) else am_rv B (am_R M r i)
    rw [am_up_nei _ _ _ hi]
theorem am_putR (cx : am_Ctx l R y cc nL ret ov M' mc ms G) {r kd j idx : Nat} {ty : FieldType} {fin : Bool} {x : Nat} (hd : decode cc pc = .ok (.putfield idx, 3)) (hF : am_FP y.cls idx kd j 2 ty fin) (hfin : fin = true → y.name = "<init>") (hty : (∃ C, ty = .object C) ∨ ∃ t, ty = .array t) (hk : am_K M r = kd) (kk : G (pc + 3) lv st (am_wR M r j x) k n) : G pc lv (.inr (.inr (.inl x)) :: .inr (.inr (.inl r)) :: st) M k n := by
  have hf : am_ft kd j = 2 := by
    obtain ⟨C, T, N, ty0, -, -, -, -, hf, -⟩ := hF
    exact hf
  have h1 : ∀ B : Nat, narrow ty (am_rv B x) = am_rv B x := by
    intro B
    rcases hty with ⟨C, rfl⟩ | ⟨t, rfl⟩ <;> rcases am_rv_or B x with h | ⟨a, h⟩ <;> (rw [h]; rfl)
  have h2 : ∀ B : Nat, fits ty (am_rv B x) = true := by
    intro B
    rcases hty with ⟨C, rfl⟩ | ⟨t, rfl⟩ <;> rcases am_rv_or B x with h | ⟨a, h⟩ <;> (rw [h]; rfl)
  refine am_put0 cx hd hF hfin hk (v := .inr (.inr (.inl x))) (M2 := am_wR M r j x) (fun B _ => h1 B) (fun B _ => h2 B) rfl rfl rfl (fun b h => rfl) (fun b h => rfl) (fun b h => am_up_ne _ _ _ h) (fun B ad i => ?_) kk
  unfold updV am_V
  by_cases hi : i = j
  · subst hi
    rw [if_pos rfl, hf]
    show am_rv B x = am_rv B (am_up (am_R M) r i x r i)
    rw [am_up_eq]
  · rw [if_neg hi]
    show _ = if am_ft kd i = 0 then Value.int (am_I M r i) else if am_ft kd i = 1 then Value.long (am_J M r i) else am_rv B (am_up (am_R M) r j x r i)
    rw [am_up_nei _ _ _ hi]
theorem am_iald (cx : am_Ctx l R y cc nL ret ov M' mc ms G) {r : Nat} {i : Int32} (hd : decode cc pc = .ok (.iaload, 1)) (hk : am_K M r = 14) (hi : am_in i (am_L M r) = true) (kk : G (pc + 1) lv (.inl (am_I M r i.toNatClampNeg) :: st) M k n) : G pc lv (.inl i :: .inr (.inr (.inl r)) :: st) M k n := by
  obtain ⟨p, e, s, m, args, below, meth, c, B, ad, H0, D, cy, Q, rfl, hQ, hx, hb, hml, hown, hT, hK, hr, hlk, hnm⟩ := cx
  intro H locs ls hH hL hl
  have hpos := hH.lives (r := r) (by rw [hk]; decide)
  have h1 := hH.2.2.1 r hpos.1 hpos.2
  rw [am_at_arr hk (by decide)] at h1
  have hvp := am_in_vp hi
  have hlt := am_in_lt hi
  show W p l e R s m args below meth c H locs k n _ (F0 m pc ls (.int i :: am_rv B r :: st.map (am_v B ad)))
  rw [am_rv_pos B hpos.1]
  exact W.iald (v := .int (am_I M r i.toNatClampNeg)) hx hb h1 ((hK.2 1 _ rfl).1 (am_L M r) (fun j => .int (am_I M r j))) (fun q => by cases q) (by show ¬ (i < 0 ∨ (arrV _ _ _).slots.size ≤ _); rw [arrV_size]; exact hvp) (by show (arrV _ _ _).slots[_]? = _; rw [arrV_read _ _ hlt]) rfl rfl hd (kk H locs ls hH hL hl)
theorem am_bald (cx : am_Ctx l R y cc nL ret ov M' mc ms G) {r : Nat} {i : Int32} (hd : decode cc pc = .ok (.baload, 1)) (hk : am_K M r = 13) (hi : am_in i (am_L M r) = true) (kk : G (pc + 1) lv (.inl (am_I M r i.toNatClampNeg) :: st) M k n) : G pc lv (.inl i :: .inr (.inr (.inl r)) :: st) M k n := by
  obtain ⟨p, e, s, m, args, below, meth, c, B, ad, H0, D, cy, Q, rfl, hQ, hx, hb, hml, hown, hT, hK, hr, hlk, hnm⟩ := cx
  intro H locs ls hH hL hl
  have hpos := hH.lives (r := r) (by rw [hk]; decide)
  have h1 := hH.2.2.1 r hpos.1 hpos.2
  rw [am_at_arr hk (by decide)] at h1
  have hvp := am_in_vp hi
  have hlt := am_in_lt hi
  show W p l e R s m args below meth c H locs k n _ (F0 m pc ls (.int i :: am_rv B r :: st.map (am_v B ad)))
  rw [am_rv_pos B hpos.1]
  exact W.bald (v := .int (am_I M r i.toNatClampNeg)) hx hb h1 ((hK.2 0 _ rfl).1 (am_L M r) (fun j => .int (am_I M r j))) (fun q => by cases q) (by show ¬ (i < 0 ∨ (arrV _ _ _).slots.size ≤ _); rw [arrV_size]; exact hvp) (by show (arrV _ _ _).slots[_]? = _; rw [arrV_read _ _ hlt]) rfl rfl hd (kk H locs ls hH hL hl)
theorem am_zald (cx : am_Ctx l R y cc nL ret ov M' mc ms G) {r : Nat} {i : Int32} (hd : decode cc pc = .ok (.baload, 1)) (hk : am_K M r = 16) (hi : am_in i (am_L M r) = true) (kk : G (pc + 1) lv (.inl (am_I M r i.toNatClampNeg) :: st) M k n) : G pc lv (.inl i :: .inr (.inr (.inl r)) :: st) M k n := by
  obtain ⟨p, e, s, m, args, below, meth, c, B, ad, H0, D, cy, Q, rfl, hQ, hx, hb, hml, hown, hT, hK, hr, hlk, hnm⟩ := cx
  intro H locs ls hH hL hl
  have hpos := hH.lives (r := r) (by rw [hk]; decide)
  have h1 := hH.2.2.1 r hpos.1 hpos.2
  rw [am_at_arr hk (by decide)] at h1
  have hvp := am_in_vp hi
  have hlt := am_in_lt hi
  show W p l e R s m args below meth c H locs k n _ (F0 m pc ls (.int i :: am_rv B r :: st.map (am_v B ad)))
  rw [am_rv_pos B hpos.1]
  exact W.zald (v := .int (am_I M r i.toNatClampNeg)) hx hb h1 ((hK.2 3 _ rfl).1 (am_L M r) (fun j => .int (am_I M r j))) (fun q => by cases q) (by show ¬ (i < 0 ∨ (arrV _ _ _).slots.size ≤ _); rw [arrV_size]; exact hvp) (by show (arrV _ _ _).slots[_]? = _; rw [arrV_read _ _ hlt]) rfl rfl hd (kk H locs ls hH hL hl)
theorem am_lald (cx : am_Ctx l R y cc nL ret ov M' mc ms G) {r : Nat} {i : Int32} (hd : decode cc pc = .ok (.laload, 1)) (hk : am_K M r = 15) (hi : am_in i (am_L M r) = true) (kk : G (pc + 1) lv (.inr (.inl (am_J M r i.toNatClampNeg)) :: st) M k n) : G pc lv (.inl i :: .inr (.inr (.inl r)) :: st) M k n := by
  obtain ⟨p, e, s, m, args, below, meth, c, B, ad, H0, D, cy, Q, rfl, hQ, hx, hb, hml, hown, hT, hK, hr, hlk, hnm⟩ := cx
  intro H locs ls hH hL hl
  have hpos := hH.lives (r := r) (by rw [hk]; decide)
  have h1 := hH.2.2.1 r hpos.1 hpos.2
  rw [am_at_arr hk (by decide)] at h1
  have hvp := am_in_vp hi
  have hlt := am_in_lt hi
  show W p l e R s m args below meth c H locs k n _ (F0 m pc ls (.int i :: am_rv B r :: st.map (am_v B ad)))
  rw [am_rv_pos B hpos.1]
  exact W.lald (v := .long (am_J M r i.toNatClampNeg)) hx hb h1 ((hK.2 2 _ rfl).1 (am_L M r) (fun j => .long (am_J M r j))) (fun q => by cases q) (by show ¬ (i < 0 ∨ (arrV _ _ _).slots.size ≤ _); rw [arrV_size]; exact hvp) (by show (arrV _ _ _).slots[_]? = _; rw [arrV_read _ _ hlt]) rfl rfl hd (kk H locs ls hH hL hl)
theorem am_aald17 (cx : am_Ctx l R y cc nL ret ov M' mc ms G) {r : Nat} {i : Int32} (hd : decode cc pc = .ok (.aaload, 1)) (hk : am_K M r = 17) (hi : am_in i (am_L M r) = true) (kk : G (pc + 1) lv (.inr (.inr (.inl (am_R M r i.toNatClampNeg))) :: st) M k n) : G pc lv (.inl i :: .inr (.inr (.inl r)) :: st) M k n := by
  obtain ⟨p, e, s, m, args, below, meth, c, B, ad, H0, D, cy, Q, rfl, hQ, hx, hb, hml, hown, hT, hK, hr, hlk, hnm⟩ := cx
  intro H locs ls hH hL hl
  have hpos := hH.lives (r := r) (by rw [hk]; decide)
  have h1 := hH.2.2.1 r hpos.1 hpos.2
  rw [am_at_arr hk (by decide)] at h1
  have hvp := am_in_vp hi
  have hlt := am_in_lt hi
  show W p l e R s m args below meth c H locs k n _ (F0 m pc ls (.int i :: am_rv B r :: st.map (am_v B ad)))
  rw [am_rv_pos B hpos.1]
  exact W.aald (v := am_rv B (am_R M r i.toNatClampNeg)) hx hb h1 ((hK.2 4 _ rfl).1 (am_L M r) (fun j => va_rf (am_ro B (am_R M r j)))) rfl (fun q => by cases q) (by show ¬ (i < 0 ∨ (arrV _ _ _).slots.size ≤ _); rw [arrV_size]; exact hvp) (by show (arrV _ _ _).slots[_]? = _; rw [arrV_read _ _ hlt]; exact congrArg some (am_rf B _)) rfl rfl hd (kk H locs ls hH hL hl)
theorem am_aald18 (cx : am_Ctx l R y cc nL ret ov M' mc ms G) {r : Nat} {i : Int32} (hd : decode cc pc = .ok (.aaload, 1)) (hk : am_K M r = 18) (hi : am_in i (am_L M r) = true) (kk : G (pc + 1) lv (.inr (.inr (.inl (am_R M r i.toNatClampNeg))) :: st) M k n) : G pc lv (.inl i :: .inr (.inr (.inl r)) :: st) M k n := by
  obtain ⟨p, e, s, m, args, below, meth, c, B, ad, H0, D, cy, Q, rfl, hQ, hx, hb, hml, hown, hT, hK, hr, hlk, hnm⟩ := cx
  intro H locs ls hH hL hl
  have hpos := hH.lives (r := r) (by rw [hk]; decide)
  have h1 := hH.2.2.1 r hpos.1 hpos.2
  rw [am_at_arr hk (by decide)] at h1
  have hvp := am_in_vp hi
  have hlt := am_in_lt hi
  show W p l e R s m args below meth c H locs k n _ (F0 m pc ls (.int i :: am_rv B r :: st.map (am_v B ad)))
  rw [am_rv_pos B hpos.1]
  exact W.aald (v := am_rv B (am_R M r i.toNatClampNeg)) hx hb h1 ((hK.2 5 _ rfl).1 (am_L M r) (fun j => va_rf (am_ro B (am_R M r j)))) rfl (fun q => by cases q) (by show ¬ (i < 0 ∨ (arrV _ _ _).slots.size ≤ _); rw [arrV_size]; exact hvp) (by show (arrV _ _ _).slots[_]? = _; rw [arrV_read _ _ hlt]; exact congrArg some (am_rf B _)) rfl rfl hd (kk H locs ls hH hL hl)
theorem am_aald19 (cx : am_Ctx l R y cc nL ret ov M' mc ms G) {r : Nat} {i : Int32} (hd : decode cc pc = .ok (.aaload, 1)) (hk : am_K M r = 19) (hi : am_in i (am_L M r) = true) (kk : G (pc + 1) lv (.inr (.inr (.inl (am_R M r i.toNatClampNeg))) :: st) M k n) : G pc lv (.inl i :: .inr (.inr (.inl r)) :: st) M k n := by
  obtain ⟨p, e, s, m, args, below, meth, c, B, ad, H0, D, cy, Q, rfl, hQ, hx, hb, hml, hown, hT, hK, hr, hlk, hnm⟩ := cx
  intro H locs ls hH hL hl
  have hpos := hH.lives (r := r) (by rw [hk]; decide)
  have h1 := hH.2.2.1 r hpos.1 hpos.2
  rw [am_at_arr hk (by decide)] at h1
  have hvp := am_in_vp hi
  have hlt := am_in_lt hi
  show W p l e R s m args below meth c H locs k n _ (F0 m pc ls (.int i :: am_rv B r :: st.map (am_v B ad)))
  rw [am_rv_pos B hpos.1]
  exact W.aald (v := am_rv B (am_R M r i.toNatClampNeg)) hx hb h1 ((hK.2 6 _ rfl).1 (am_L M r) (fun j => va_rf (am_ro B (am_R M r j)))) rfl (fun q => by cases q) (by show ¬ (i < 0 ∨ (arrV _ _ _).slots.size ≤ _); rw [arrV_size]; exact hvp) (by show (arrV _ _ _).slots[_]? = _; rw [arrV_read _ _ hlt]; exact congrArg some (am_rf B _)) rfl rfl hd (kk H locs ls hH hL hl)
theorem am_aald20 (cx : am_Ctx l R y cc nL ret ov M' mc ms G) {r : Nat} {i : Int32} (hd : decode cc pc = .ok (.aaload, 1)) (hk : am_K M r = 20) (hi : am_in i (am_L M r) = true) (kk : G (pc + 1) lv (.inr (.inr (.inl (am_R M r i.toNatClampNeg))) :: st) M k n) : G pc lv (.inl i :: .inr (.inr (.inl r)) :: st) M k n := by
  obtain ⟨p, e, s, m, args, below, meth, c, B, ad, H0, D, cy, Q, rfl, hQ, hx, hb, hml, hown, hT, hK, hr, hlk, hnm⟩ := cx
  intro H locs ls hH hL hl
  have hpos := hH.lives (r := r) (by rw [hk]; decide)
  have h1 := hH.2.2.1 r hpos.1 hpos.2
  rw [am_at_arr hk (by decide)] at h1
  have hvp := am_in_vp hi
  have hlt := am_in_lt hi
  show W p l e R s m args below meth c H locs k n _ (F0 m pc ls (.int i :: am_rv B r :: st.map (am_v B ad)))
  rw [am_rv_pos B hpos.1]
  exact W.aald (v := am_rv B (am_R M r i.toNatClampNeg)) hx hb h1 ((hK.2 7 _ rfl).1 (am_L M r) (fun j => va_rf (am_ro B (am_R M r j)))) rfl (fun q => by cases q) (by show ¬ (i < 0 ∨ (arrV _ _ _).slots.size ≤ _); rw [arrV_size]; exact hvp) (by show (arrV _ _ _).slots[_]? = _; rw [arrV_read _ _ hlt]; exact congrArg some (am_rf B _)) rfl rfl hd (kk H locs ls hH hL hl)
theorem am_iast (cx : am_Ctx l R y cc nL ret ov M' mc ms G) {r : Nat} {i : Int32} {x : Int32} (hd : decode cc pc = .ok (.iastore, 1)) (hk : am_K M r = 14) (hi : am_in i (am_L M r) = true) (kk : G (pc + 1) lv st (am_wI M r i.toNatClampNeg x) k n) : G pc lv (.inl x :: .inl i :: .inr (.inr (.inl r)) :: st) M k n := by
  obtain ⟨p, e, s, m, args, below, meth, c, B, ad, H0, D, cy, Q, rfl, hQ, hx, hb, hml, hown, hT, hK, hr, hlk, hnm⟩ := cx
  intro H locs ls hH hL hl
  have hpos := hH.lives (r := r) (by rw [hk]; decide)
  have h1 := hH.2.2.1 r hpos.1 hpos.2
  rw [am_at_arr hk (by decide)] at h1
  have hvp := am_in_vp hi
  have hlt := am_in_lt hi
  show W p l e R s m args below meth c H locs k n _ (F0 m pc ls (.int x :: .int i :: am_rv B r :: st.map (am_v B ad)))
  rw [am_rv_pos B hpos.1]
  refine W.iast hx hb h1 ((hK.2 1 _ rfl).1 (am_L M r) (fun j => .int (am_I M r j))) (fun q => by cases q) (by show ¬ (i < 0 ∨ (arrV _ _ _).slots.size ≤ _); rw [arrV_size]; exact hvp) rfl rfl hd fun H1 e1 z oq => ?_
  refine kk H1 _ ls (hH.put rfl rfl rfl (fun b h => am_up_ne _ _ _ h) (fun b h => rfl) (fun b h => rfl) hpos.1 z oq ?_) ?_ hl
  · rw [am_at_arr (show am_K (am_wI M r i.toNatClampNeg x) r = 14 from hk) (by decide), e1]
    refine congrArg some ?_
    show (arrV _ _ _).setSlot _ _ = arrV _ _ (fun j => .int (am_up (am_I M) r i.toNatClampNeg x r j))
    rw [arrV_store]
    refine congrArg (arrV _ _) (funext fun q => ?_)
    by_cases hq : q = i.toNatClampNeg
    · subst hq
      unfold updV
      rw [if_pos rfl]
      exact congrArg Value.int (am_up_eq _ _ _ _).symm
    · unfold updV
      rw [if_neg hq]
      exact congrArg Value.int (am_up_nei _ _ _ hq).symm
  · intro q hq
    rcases List.mem_append.mp hq with h | h
    · exact hL q h
    · rw [List.mem_singleton.mp h]
      show B < B + r
      omega
theorem am_bast (cx : am_Ctx l R y cc nL ret ov M' mc ms G) {r : Nat} {i : Int32} {x : Int32} (hd : decode cc pc = .ok (.bastore, 1)) (hk : am_K M r = 13) (hi : am_in i (am_L M r) = true) (kk : G (pc + 1) lv st (am_wI M r i.toNatClampNeg x.toInt8.toInt32) k n) : G pc lv (.inl x :: .inl i :: .inr (.inr (.inl r)) :: st) M k n := by
  obtain ⟨p, e, s, m, args, below, meth, c, B, ad, H0, D, cy, Q, rfl, hQ, hx, hb, hml, hown, hT, hK, hr, hlk, hnm⟩ := cx
  intro H locs ls hH hL hl
  have hpos := hH.lives (r := r) (by rw [hk]; decide)
  have h1 := hH.2.2.1 r hpos.1 hpos.2
  rw [am_at_arr hk (by decide)] at h1
  have hvp := am_in_vp hi
  have hlt := am_in_lt hi
  show W p l e R s m args below meth c H locs k n _ (F0 m pc ls (.int x :: .int i :: am_rv B r :: st.map (am_v B ad)))
  rw [am_rv_pos B hpos.1]
  refine W.bast hx hb h1 ((hK.2 0 _ rfl).1 (am_L M r) (fun j => .int (am_I M r j))) (fun q => by cases q) (by show ¬ (i < 0 ∨ (arrV _ _ _).slots.size ≤ _); rw [arrV_size]; exact hvp) rfl rfl hd fun H1 e1 z oq => ?_
  refine kk H1 _ ls (hH.put rfl rfl rfl (fun b h => am_up_ne _ _ _ h) (fun b h => rfl) (fun b h => rfl) hpos.1 z oq ?_) ?_ hl
  · rw [am_at_arr (show am_K (am_wI M r i.toNatClampNeg x.toInt8.toInt32) r = 13 from hk) (by decide), e1]
    refine congrArg some ?_
    show (arrV _ _ _).setSlot _ _ = arrV _ _ (fun j => .int (am_up (am_I M) r i.toNatClampNeg x.toInt8.toInt32 r j))
    rw [arrV_store]
    refine congrArg (arrV _ _) (funext fun q => ?_)
    by_cases hq : q = i.toNatClampNeg
    · subst hq
      unfold updV
      rw [if_pos rfl]
      exact congrArg Value.int (am_up_eq _ _ _ _).symm
    · unfold updV
      rw [if_neg hq]
      exact congrArg Value.int (am_up_nei _ _ _ hq).symm
  · intro q hq
    rcases List.mem_append.mp hq with h | h
    · exact hL q h
    · rw [List.mem_singleton.mp h]
      show B < B + r
      omega
theorem am_zast (cx : am_Ctx l R y cc nL ret ov M' mc ms G) {r : Nat} {i : Int32} {x : Int32} (hd : decode cc pc = .ok (.bastore, 1)) (hk : am_K M r = 16) (hi : am_in i (am_L M r) = true) (kk : G (pc + 1) lv st (am_wI M r i.toNatClampNeg (x &&& 1)) k n) : G pc lv (.inl x :: .inl i :: .inr (.inr (.inl r)) :: st) M k n := by
  obtain ⟨p, e, s, m, args, below, meth, c, B, ad, H0, D, cy, Q, rfl, hQ, hx, hb, hml, hown, hT, hK, hr, hlk, hnm⟩ := cx
  intro H locs ls hH hL hl
  have hpos := hH.lives (r := r) (by rw [hk]; decide)
  have h1 := hH.2.2.1 r hpos.1 hpos.2
  rw [am_at_arr hk (by decide)] at h1
  have hvp := am_in_vp hi
  have hlt := am_in_lt hi
  show W p l e R s m args below meth c H locs k n _ (F0 m pc ls (.int x :: .int i :: am_rv B r :: st.map (am_v B ad)))
  rw [am_rv_pos B hpos.1]
  refine W.zast hx hb h1 ((hK.2 3 _ rfl).1 (am_L M r) (fun j => .int (am_I M r j))) (fun q => by cases q) (by show ¬ (i < 0 ∨ (arrV _ _ _).slots.size ≤ _); rw [arrV_size]; exact hvp) rfl rfl hd fun H1 e1 z oq => ?_
  refine kk H1 _ ls (hH.put rfl rfl rfl (fun b h => am_up_ne _ _ _ h) (fun b h => rfl) (fun b h => rfl) hpos.1 z oq ?_) ?_ hl
  · rw [am_at_arr (show am_K (am_wI M r i.toNatClampNeg (x &&& 1)) r = 16 from hk) (by decide), e1]
    refine congrArg some ?_
    show (arrV _ _ _).setSlot _ _ = arrV _ _ (fun j => .int (am_up (am_I M) r i.toNatClampNeg (x &&& 1) r j))
    rw [arrV_store]
    refine congrArg (arrV _ _) (funext fun q => ?_)
    by_cases hq : q = i.toNatClampNeg
    · subst hq
      unfold updV
      rw [if_pos rfl]
      exact congrArg Value.int (am_up_eq _ _ _ _).symm
    · unfold updV
      rw [if_neg hq]
      exact congrArg Value.int (am_up_nei _ _ _ hq).symm
  · intro q hq
    rcases List.mem_append.mp hq with h | h
    · exact hL q h
    · rw [List.mem_singleton.mp h]
      show B < B + r
      omega
theorem am_last (cx : am_Ctx l R y cc nL ret ov M' mc ms G) {r : Nat} {i : Int32} {x : Int64} (hd : decode cc pc = .ok (.lastore, 1)) (hk : am_K M r = 15) (hi : am_in i (am_L M r) = true) (kk : G (pc + 1) lv st (am_wJ M r i.toNatClampNeg x) k n) : G pc lv (.inr (.inl x) :: .inl i :: .inr (.inr (.inl r)) :: st) M k n := by
  obtain ⟨p, e, s, m, args, below, meth, c, B, ad, H0, D, cy, Q, rfl, hQ, hx, hb, hml, hown, hT, hK, hr, hlk, hnm⟩ := cx
  intro H locs ls hH hL hl
  have hpos := hH.lives (r := r) (by rw [hk]; decide)
  have h1 := hH.2.2.1 r hpos.1 hpos.2
  rw [am_at_arr hk (by decide)] at h1
  have hvp := am_in_vp hi
  have hlt := am_in_lt hi
  show W p l e R s m args below meth c H locs k n _ (F0 m pc ls (.long x :: .int i :: am_rv B r :: st.map (am_v B ad)))
  rw [am_rv_pos B hpos.1]
  refine W.last hx hb h1 ((hK.2 2 _ rfl).1 (am_L M r) (fun j => .long (am_J M r j))) (fun q => by cases q) (by show ¬ (i < 0 ∨ (arrV _ _ _).slots.size ≤ _); rw [arrV_size]; exact hvp) rfl rfl hd fun H1 e1 z oq => ?_
  refine kk H1 _ ls (hH.put rfl rfl rfl (fun b h => rfl) (fun b h => am_up_ne _ _ _ h) (fun b h => rfl) hpos.1 z oq ?_) ?_ hl
  · rw [am_at_arr (show am_K (am_wJ M r i.toNatClampNeg x) r = 15 from hk) (by decide), e1]
    refine congrArg some ?_
    show (arrV _ _ _).setSlot _ _ = arrV _ _ (fun j => .long (am_up (am_J M) r i.toNatClampNeg x r j))
    rw [arrV_store]
    refine congrArg (arrV _ _) (funext fun q => ?_)
    by_cases hq : q = i.toNatClampNeg
    · subst hq
      unfold updV
      rw [if_pos rfl]
      exact congrArg Value.long (am_up_eq _ _ _ _).symm
    · unfold updV
      rw [if_neg hq]
      exact congrArg Value.long (am_up_nei _ _ _ hq).symm
  · intro q hq
    rcases List.mem_append.mp hq with h | h
    · exact hL q h
    · rw [List.mem_singleton.mp h]
      show B < B + r
      omega
theorem am_aast17 (cx : am_Ctx l R y cc nL ret ov M' mc ms G) {r v : Nat} {i : Int32} (hd : decode cc pc = .ok (.aastore, 1)) (hk : am_K M r = 17) (hi : am_in i (am_L M r) = true) (hv : am_K M v = 6) (kk : G (pc + 1) lv st (am_wR M r i.toNatClampNeg v) k n) : G pc lv (.inr (.inr (.inl v)) :: .inl i :: .inr (.inr (.inl r)) :: st) M k n := by
  obtain ⟨p, e, s, m, args, below, meth, c, B, ad, H0, D, cy, Q, rfl, hQ, hx, hb, hml, hown, hT, hK, hr, hlk, hnm⟩ := cx
  intro H locs ls hH hL hl
  have hpos := hH.lives (r := r) (by rw [hk]; decide)
  have h1 := hH.2.2.1 r hpos.1 hpos.2
  rw [am_at_arr hk (by decide)] at h1
  have hvp := am_in_vp hi
  have hlt := am_in_lt hi
  have hposv := hH.lives (r := v) (by rw [hv]; decide)
  have h2 := hH.2.2.1 v hposv.1 hposv.2
  rw [am_at_obj hv (by decide)] at h2
  obtain ⟨cellV, g1, g2, g3, -⟩ := h2
  have hcls := (hK.1 6 _ rfl).2
  obtain ⟨kA, comp, k1, k2, k3, -⟩ := (hK.2 4 _ rfl).2
  have hcomp : comp = D.1 6 := Option.some.inj (k3.symm.trans hcls.1)
  subst hcomp
  obtain ⟨kC, hkC, -⟩ := hcls.2
  show W p l e R s m args below meth c H locs k n _ (F0 m pc ls (am_rv B v :: .int i :: am_rv B r :: st.map (am_v B ad)))
  rw [am_rv_pos B hpos.1, am_rv_pos B hposv.1]
  refine W.aast hx hb h1 (fun q h => by cases h) (fun h => by cases h) k1 k2 rfl hkC ⟨fun q => hvp (Or.inl q), by show _ < (arrV _ _ _).slots.size; rw [arrV_size]; exact hlt⟩ g1 (fun q h => by rw [g3] at h; cases h) (by rw [g2]; exact hkC) (by rw [g2]; exact va_assign hcls) rfl rfl hd fun H1 e1 z oq => ?_
  refine kk H1 _ ls (hH.put rfl rfl rfl (fun b h => rfl) (fun b h => rfl) (fun b h => am_up_ne _ _ _ h) hpos.1 z oq ?_) ?_ hl
  · rw [am_at_arr (show am_K (am_wR M r i.toNatClampNeg v) r = 17 from hk) (by decide), e1]
    refine congrArg some ?_
    show (arrV _ _ _).setSlot _ _ = arrV _ _ (fun j => va_rf (am_ro B (am_up (am_R M) r i.toNatClampNeg v r j)))
    rw [arrV_store]
    refine congrArg (arrV _ _) (funext fun q => ?_)
    by_cases hq : q = i.toNatClampNeg
    · subst hq
      unfold updV
      rw [if_pos rfl, am_up_eq, am_rf, am_rv_pos B hposv.1]
    · unfold updV
      rw [if_neg hq, am_up_nei _ _ _ hq]
  · intro q hq
    rcases List.mem_append.mp hq with h | h
    · exact hL q h
    · rw [List.mem_singleton.mp h]
      show B < B + r
      omega
theorem am_aast18 (cx : am_Ctx l R y cc nL ret ov M' mc ms G) {r v : Nat} {i : Int32} (hd : decode cc pc = .ok (.aastore, 1)) (hk : am_K M r = 18) (hi : am_in i (am_L M r) = true) (hv : am_K M v = 10) (kk : G (pc + 1) lv st (am_wR M r i.toNatClampNeg v) k n) : G pc lv (.inr (.inr (.inl v)) :: .inl i :: .inr (.inr (.inl r)) :: st) M k n := by
  obtain ⟨p, e, s, m, args, below, meth, c, B, ad, H0, D, cy, Q, rfl, hQ, hx, hb, hml, hown, hT, hK, hr, hlk, hnm⟩ := cx
  intro H locs ls hH hL hl
  have hpos := hH.lives (r := r) (by rw [hk]; decide)
  have h1 := hH.2.2.1 r hpos.1 hpos.2
  rw [am_at_arr hk (by decide)] at h1
  have hvp := am_in_vp hi
  have hlt := am_in_lt hi
  have hposv := hH.lives (r := v) (by rw [hv]; decide)
  have h2 := hH.2.2.1 v hposv.1 hposv.2
  rw [am_at_obj hv (by decide)] at h2
  obtain ⟨cellV, g1, g2, g3, -⟩ := h2
  have hcls := (hK.1 10 _ rfl).2
  obtain ⟨kA, comp, k1, k2, k3, -⟩ := (hK.2 5 _ rfl).2
  have hcomp : comp = D.1 10 := Option.some.inj (k3.symm.trans hcls.1)
  subst hcomp
  obtain ⟨kC, hkC, -⟩ := hcls.2
  show W p l e R s m args below meth c H locs k n _ (F0 m pc ls (am_rv B v :: .int i :: am_rv B r :: st.map (am_v B ad)))
  rw [am_rv_pos B hpos.1, am_rv_pos B hposv.1]
  refine W.aast hx hb h1 (fun q h => by cases h) (fun h => by cases h) k1 k2 rfl hkC ⟨fun q => hvp (Or.inl q), by show _ < (arrV _ _ _).slots.size; rw [arrV_size]; exact hlt⟩ g1 (fun q h => by rw [g3] at h; cases h) (by rw [g2]; exact hkC) (by rw [g2]; exact va_assign hcls) rfl rfl hd fun H1 e1 z oq => ?_
  refine kk H1 _ ls (hH.put rfl rfl rfl (fun b h => rfl) (fun b h => rfl) (fun b h => am_up_ne _ _ _ h) hpos.1 z oq ?_) ?_ hl
  · rw [am_at_arr (show am_K (am_wR M r i.toNatClampNeg v) r = 18 from hk) (by decide), e1]
    refine congrArg some ?_
    show (arrV _ _ _).setSlot _ _ = arrV _ _ (fun j => va_rf (am_ro B (am_up (am_R M) r i.toNatClampNeg v r j)))
    rw [arrV_store]
    refine congrArg (arrV _ _) (funext fun q => ?_)
    by_cases hq : q = i.toNatClampNeg
    · subst hq
      unfold updV
      rw [if_pos rfl, am_up_eq, am_rf, am_rv_pos B hposv.1]
    · unfold updV
      rw [if_neg hq, am_up_nei _ _ _ hq]
  · intro q hq
    rcases List.mem_append.mp hq with h | h
    · exact hL q h
    · rw [List.mem_singleton.mp h]
      show B < B + r
      omega
theorem am_alen14 (cx : am_Ctx l R y cc nL ret ov M' mc ms G) {r : Nat} (hd : decode cc pc = .ok (.arraylength, 1)) (hk : am_K M r = 14) (kk : G (pc + 1) lv (.inl (Int32.ofNat (am_L M r)) :: st) M k n) : G pc lv (.inr (.inr (.inl r)) :: st) M k n := by
  obtain ⟨p, e, s, m, args, below, meth, c, B, ad, H0, D, cy, Q, rfl, hQ, hx, hb, hml, hown, hT, hK, hr, hlk, hnm⟩ := cx
  intro H locs ls hH hL hl
  have hpos := hH.lives (r := r) (by rw [hk]; decide)
  have h1 := hH.2.2.1 r hpos.1 hpos.2
  rw [am_at_arr hk (by decide)] at h1
  show W p l e R s m args below meth c H locs k n _ (F0 m pc ls (am_rv B r :: st.map (am_v B ad)))
  rw [am_rv_pos B hpos.1]
  exact W.alen (n := Int32.ofNat (am_L M r)) hx hb h1 ((hK.2 1 _ rfl).1 (am_L M r) (fun j => .int (am_I M r j))) (by show ((arrV _ _ _).slots.size).toInt32 = _; rw [arrV_size]) rfl rfl hd (kk H locs ls hH hL hl)
theorem am_alen17 (cx : am_Ctx l R y cc nL ret ov M' mc ms G) {r : Nat} (hd : decode cc pc = .ok (.arraylength, 1)) (hk : am_K M r = 17) (kk : G (pc + 1) lv (.inl (Int32.ofNat (am_L M r)) :: st) M k n) : G pc lv (.inr (.inr (.inl r)) :: st) M k n := by
  obtain ⟨p, e, s, m, args, below, meth, c, B, ad, H0, D, cy, Q, rfl, hQ, hx, hb, hml, hown, hT, hK, hr, hlk, hnm⟩ := cx
  intro H locs ls hH hL hl
  have hpos := hH.lives (r := r) (by rw [hk]; decide)
  have h1 := hH.2.2.1 r hpos.1 hpos.2
  rw [am_at_arr hk (by decide)] at h1
  show W p l e R s m args below meth c H locs k n _ (F0 m pc ls (am_rv B r :: st.map (am_v B ad)))
  rw [am_rv_pos B hpos.1]
  exact W.alen (n := Int32.ofNat (am_L M r)) hx hb h1 ((hK.2 4 _ rfl).1 (am_L M r) (fun j => va_rf (am_ro B (am_R M r j)))) (by show ((arrV _ _ _).slots.size).toInt32 = _; rw [arrV_size]) rfl rfl hd (kk H locs ls hH hL hl)
end AMH
