/-! rows that make things, and calls -/
def am_cnt (i : Int32) (cap : Nat) : Bool := decide (¬ i < 0) && decide (i.toNatClampNeg ≤ cap)
theorem am_cnt_ok {i : Int32} {cap : Nat} (h : am_cnt i cap = true) : ¬ i < 0 ∧ i.toNatClampNeg ≤ cap := ⟨of_decide_eq_true ((Bool.and_eq_true _ _).mp h).1, of_decide_eq_true ((Bool.and_eq_true _ _).mp h).2⟩
/-- a class as 'new' names it -/
def am_NW (own : String) (idx kd N : Nat) : Prop := ∃ (C : String) (T : u_T) (ty0 : Nat → FieldType), vwCl[kd]? = some (C, T, N) ∧ am_w (.classLink own idx C) ∧ am_w (.instantiable C N) ∧ am_w (.initialized C) ∧ (∀ w ∈ u_ws C T N, am_w w) ∧ (∀ i, i < N → parseFieldDescriptor (T i).2.2.1 = some (ty0 i)) ∧ am_Nk kd = N ∧ kd < 13 ∧
  ∀ j, j < N → defaultValue (ty0 j) = if am_ft kd j = 0 then .int 0 else if am_ft kd j = 1 then .long 0 else .null
/-- a method as a call names it -/
def am_CB (own : String) (idx : Nat) (y2 : MethodName) (cc2 : ByteArray) (maxL2 : Nat) (ret2 : Option FieldType) (np : Nat) : Prop :=
  am_w (.initialized y2.cls) ∧ am_w (.code y2 cc2 maxL2 ret2) ∧ (y2.cls ≠ "java/lang/invoke/MethodHandle" ∧ y2.cls ≠ "java/lang/invoke/VarHandle") ∧ (parseMethodDescriptor y2.desc).map (fun d => d.parameters.length) = some np
def am_CV (own : String) (idx : Nat) (y2 : MethodName) (cc2 : ByteArray) (maxL2 : Nat) (ret2 : Option FieldType) (np kd : Nat) : Prop :=
  am_CB own idx y2 cc2 maxL2 ret2 np ∧ am_w (.methodLink own idx y2) ∧ am_w (.instanceMethod y2) ∧ am_w (.selects y2.cls y2 y2) ∧ kd < 13 ∧ ∃ (T : u_T) (N : Nat), vwCl[kd]? = some (y2.cls, T, N)
def am_CS (own : String) (idx : Nat) (y2 : MethodName) (cc2 : ByteArray) (maxL2 : Nat) (ret2 : Option FieldType) (np : Nat) : Prop :=
  am_CB own idx y2 cc2 maxL2 ret2 np ∧ am_w (.methodLink own idx y2) ∧ am_w (.static y2)
def am_CSN (own : String) (idx : Nat) (y2 : MethodName) (cc2 : ByteArray) (maxL2 : Nat) (ret2 : Option FieldType) (np : Nat) (host : String) : Prop :=
  am_CB own idx y2 cc2 maxL2 ret2 np ∧ Cond.methodLinkNest own idx y2 host ∈ lw_tbl ∧ am_w (.static y2)
def am_CI (own : String) (idx : Nat) (y2 : MethodName) (cc2 : ByteArray) (maxL2 : Nat) (np : Nat) : Prop :=
  am_CB own idx y2 cc2 maxL2 none np ∧ am_w (.methodLink own idx y2) ∧ am_w (.instanceMethod y2) ∧ y2.name = "<init>"
def am_CIN (own : String) (idx : Nat) (y2 : MethodName) (cc2 : ByteArray) (maxL2 : Nat) (np : Nat) (host : String) : Prop :=
  am_CB own idx y2 cc2 maxL2 none np ∧ Cond.methodLinkNest own idx y2 host ∈ lw_tbl ∧ am_w (.instanceMethod y2) ∧ y2.name = "<init>"
theorem am_blind {B : Nat} {ad : Nat → Option Nat} {H0 : Heap} {D : va_G} {cy : Nat → ClassId} {M : am_Mem} {as : List Value} : FrameBlind (va_Pc as (am_Pre B ad H0 D cy M)) := by
  intro a U g mk q
  obtain ⟨q0, qH, qK, qT⟩ := q
  exact ⟨q0, qH, va_K.moved (u := U) (U := U.calling g mk a) (Vm.Alike.refl U.vm) qK, qT.warm (s := U) (U := U.calling g mk a) (State.WarmedH.refl U)⟩
theorem am_cb {B : Nat} {ad : Nat → Option Nat} {H0 : Heap} {s : State} {args : Array Value} {R rm : Room} {own : String} {idx : Nat} {y2 : MethodName} {cc2 : ByteArray} {maxL2 : Nat} {ret2 : Option FieldType} {np mc2 ms2 : Nat} (hT : am_T B ad H0 s) (hC : am_CB own idx y2 cc2 maxL2 ret2 np) (hR : rm.cells = mc2 ∧ rm.slots = ms2 ∧ rm.frames + 1 ≤ R.frames ∧ 8 + (maxL2 + 11) + rm.locals ≤ R.locals) (hl : (Cond.methodLink own idx y2).before args s = true) :
    CallB R s args own idx y2 cc2 maxL2 ret2 [.code y2 cc2 maxL2 ret2] rm mc2 ms2 np := by
  obtain ⟨h1, h2, h3, h4⟩ := hC
  refine ⟨hR.1, hR.2.1, hR.2.2.1, hR.2.2.2, fun w hw a' U hW => ?_, List.mem_cons_self, hT.1 _ h2 args, hT.1 _ h1 args, h3, fun sig h => ?_, hl⟩
  · rw [List.mem_singleton.mp hw]
    exact (hT.warm hW).1 _ h2 a'
  · rw [h] at h4
    exact (Option.some.inj h4).symm
theorem am_cn {B : Nat} {ad : Nat → Option Nat} {H0 : Heap} {s : State} {args : Array Value} {R rm : Room} {own : String} {idx : Nat} {y2 : MethodName} {cc2 : ByteArray} {maxL2 : Nat} {ret2 : Option FieldType} {np mc2 ms2 : Nat} {host : String} (hT : am_T B ad H0 s) (hC : am_CB own idx y2 cc2 maxL2 ret2 np) (hR : rm.cells = mc2 ∧ rm.slots = ms2 ∧ rm.frames + 1 ≤ R.frames ∧ 8 + (maxL2 + 11) + rm.locals ≤ R.locals) (hl : Cond.methodLinkNest own idx y2 host ∈ lw_tbl) :
    va_CN R s args own idx y2 host cc2 maxL2 ret2 [.code y2 cc2 maxL2 ret2] rm mc2 ms2 np := by
  obtain ⟨h1, h2, h3, h4⟩ := hC
  refine ⟨⟨hR.1, hR.2.1, hR.2.2.1, hR.2.2.2, fun w hw a' U hW => ?_, List.mem_cons_self⟩, hT.1 _ h2 args, hT.1 _ h1 args, h3, fun sig h => ?_, va_Nw.use rfl (hT.2.1 _ _ _ _ hl)⟩
  · rw [List.mem_singleton.mp hw]
    exact (hT.warm hW).1 _ h2 a'
  · rw [h] at h4
    exact (Option.some.inj h4).symm
theorem am_pop {B : Nat} {ad : Nat → Option Nat} (ov2 : Option am_A) (rest : List am_A) : (ov2.map (am_v B ad)).toList ++ rest.map (am_v B ad) = (ov2.toList ++ rest).map (am_v B ad) := by
  cases ov2 <;> rfl
theorem am_rs {B : Nat} {ad : Nat → Option Nat} {As rest : List am_A} {a : am_A} : (As.reverse ++ a :: rest).map (am_v B ad) = (As.map (am_v B ad)).reverse ++ am_v B ad a :: rest.map (am_v B ad) := by
  rw [List.map_append, List.map_reverse, List.map_cons]
theorem am_rcat {B : Nat} {ad : Nat → Option Nat} (rest : List am_A) : ((rest.map (am_v B ad)).map fun v => v.category) = rest.map am_cat := by
  rw [List.map_map]
  exact List.map_congr_left (fun a _ => am_v_cat B ad a)
section AMN
variable {l : Launch} {R : Room} {y : MethodName} {cc : ByteArray} {nL : Nat} {ret : Option FieldType} {ov : Option am_A} {M' : am_Mem} {mc ms : Nat} {G : am_G} {pc : Nat} {lv : List (Nat × am_A)} {st : List am_A} {M : am_Mem} {k n : Nat}
theorem am_newO (cx : am_Ctx l R y cc nL ret ov M' mc ms G) {kd idx N : Nat} (hd : decode cc pc = .ok (.new idx, 3)) (hN : am_NW y.cls idx kd N) (hc : k + 1 ≤ R.cells) (hs : n + N ≤ R.slots) (kk : G (pc + 3) lv (.inr (.inr (.inl (am_n M + 1))) :: st) (am_new M kd 0) (k + 1) (n + N)) : G pc lv st M k n := by
  obtain ⟨p, e, s, m, args, below, meth, c, B, ad, H0, D, cy, Q, rfl, hQ, hx, hb, hml, hown, hT, hK, hr, hlk, hnm⟩ := cx
  intro H locs ls hH hL hl
  obtain ⟨C, T, ty0, h1, h2, h3, h4, h5, h6, h7, h13, h8⟩ := hN
  have hKn := hK.1 kd _ h1
  have hz := hH.1
  refine W.newcK hx hb hown (hT.1 _ h2 args) (hT.1 _ h3 args) (hT.1 _ h4 args) rfl hd hc hs hKn.2.1 (h := B + (am_n M + 1)) (by omega) fun H1 kC hkC e1 z1 o1 => ?_
  have hts : ∀ w ∈ u_ws C T N, w.before args s = true := fun w h => hT.1 w (h5 w h) args
  have hk := kk H1 locs ls (hH.push (by omega) (fun q hq => o1 q (by omega)) ?_) hL hl
  · have e2 : am_rv B (am_n M + 1) = .ref (B + (am_n M + 1)) := am_rv_pos B (by omega)
    have hk2 : W p l e R s m args below meth c H1 locs (k + 1) (n + N) _ (F0 m (pc + 3) ls (am_rv B (am_n M + 1) :: st.map (am_v B ad))) := hk
    rw [e2] at hk2
    exact hk2
  · have hkd : am_K (am_new M kd 0) (am_n M + 1) = kd := am_u1_eq _ _ _
    rw [am_at_obj hkd h13, h7]
    refine (u_born ty0 hts (fun w h => h) hKn hkC e1 h6).to (fun j hj => ?_)
    rw [h8 j hj]
    unfold am_V
    have eI : am_I (am_new M kd 0) (am_n M + 1) j = 0 := congrFun (am_u1_eq (am_I M) (am_n M + 1) (fun _ => 0)) j
    have eJ : am_J (am_new M kd 0) (am_n M + 1) j = 0 := congrFun (am_u1_eq (am_J M) (am_n M + 1) (fun _ => 0)) j
    have eR : am_R (am_new M kd 0) (am_n M + 1) j = 0 := congrFun (am_u1_eq (am_R M) (am_n M + 1) (fun _ => 0)) j
    rw [eI, eJ, eR]
    rfl
theorem am_newI (cx : am_Ctx l R y cc nL ret ov M' mc ms G) {i : Int32} (cap : Nat) (hd : decode cc pc = .ok (.newarray .int, 2)) (hw : am_w (.arrayClass .int)) (hi : am_cnt i cap = true) (hcap : cap ≤ 100000) (hc : k + 1 ≤ R.cells) (hs : n + cap ≤ R.slots) (kk : G (pc + 2) lv (.inr (.inr (.inl (am_n M + 1))) :: st) (am_new M 14 i.toNatClampNeg) (k + 1) (n + cap)) : G pc lv (.inl i :: st) M k n := by
  obtain ⟨p, e, s, m, args, below, meth, c, B, ad, H0, D, cy, Q, rfl, hQ, hx, hb, hml, hown, hT, hK, hr, hlk, hnm⟩ := cx
  intro H locs ls hH hL hl
  obtain ⟨hi0, hi1⟩ := am_cnt_ok hi
  have hz := hH.1
  refine va_newaK (atype := .int) hx hb (hT.1 _ hw args) rfl hd rfl hi0 rfl (Nat.le_trans (Nat.mul_le_mul hi1 (show componentBytes .int ≤ 8 by decide)) (by omega)) hc (by omega) (h := B + (am_n M + 1)) (by omega) fun H1 cA e1 z1 o1 hAr hNm => ?_
  have hcy : cA = cy 14 := Option.some.inj (hNm.symm.trans (hK.2 1 _ rfl).2)
  subst hcy
  refine W.widen (k := k + 1) (n := n + cap) (Nat.le_refl _) (by omega) ?_
  have hk := kk H1 locs ls (hH.push (by omega) (fun q hq => o1 q (by omega)) ?_) hL hl
  · have e2 : am_rv B (am_n M + 1) = .ref (B + (am_n M + 1)) := am_rv_pos B (by omega)
    have hk2 : W p l e R s m args below meth c H1 locs (k + 1) (n + cap) _ (F0 m (pc + 2) ls (am_rv B (am_n M + 1) :: st.map (am_v B ad))) := hk
    rw [e2] at hk2
    exact hk2
  · have hkd : am_K (am_new M 14 i.toNatClampNeg) (am_n M + 1) = 14 := am_u1_eq _ _ _
    have hln : am_L (am_new M 14 i.toNatClampNeg) (am_n M + 1) = i.toNatClampNeg := am_u1_eq _ _ _
    have hrow : am_I (am_new M 14 i.toNatClampNeg) (am_n M + 1) = fun _ => 0 := am_u1_eq _ _ _
    rw [am_at_arr hkd (by decide), hln, e1]
    show some (arrV _ _ _) = some (vp_cell (cy 14) (i.toNatClampNeg, .inl (am_I (am_new M 14 i.toNatClampNeg) (am_n M + 1))))
    rw [hrow]
    rfl
theorem am_newB (cx : am_Ctx l R y cc nL ret ov M' mc ms G) {i : Int32} (cap : Nat) (hd : decode cc pc = .ok (.newarray .byte, 2)) (hw : am_w (.arrayClass .byte)) (hi : am_cnt i cap = true) (hcap : cap ≤ 100000) (hc : k + 1 ≤ R.cells) (hs : n + cap ≤ R.slots) (kk : G (pc + 2) lv (.inr (.inr (.inl (am_n M + 1))) :: st) (am_new M 13 i.toNatClampNeg) (k + 1) (n + cap)) : G pc lv (.inl i :: st) M k n := by
  obtain ⟨p, e, s, m, args, below, meth, c, B, ad, H0, D, cy, Q, rfl, hQ, hx, hb, hml, hown, hT, hK, hr, hlk, hnm⟩ := cx
  intro H locs ls hH hL hl
  obtain ⟨hi0, hi1⟩ := am_cnt_ok hi
  have hz := hH.1
  refine va_newaK (atype := .byte) hx hb (hT.1 _ hw args) rfl hd rfl hi0 rfl (Nat.le_trans (Nat.mul_le_mul hi1 (show componentBytes .byte ≤ 8 by decide)) (by omega)) hc (by omega) (h := B + (am_n M + 1)) (by omega) fun H1 cA e1 z1 o1 hAr hNm => ?_
  have hcy : cA = cy 13 := Option.some.inj (hNm.symm.trans (hK.2 0 _ rfl).2)
  subst hcy
  refine W.widen (k := k + 1) (n := n + cap) (Nat.le_refl _) (by omega) ?_
  have hk := kk H1 locs ls (hH.push (by omega) (fun q hq => o1 q (by omega)) ?_) hL hl
  · have e2 : am_rv B (am_n M + 1) = .ref (B + (am_n M + 1)) := am_rv_pos B (by omega)
    have hk2 : W p l e R s m args below meth c H1 locs (k + 1) (n + cap) _ (F0 m (pc + 2) ls (am_rv B (am_n M + 1) :: st.map (am_v B ad))) := hk
    rw [e2] at hk2
    exact hk2
  · have hkd : am_K (am_new M 13 i.toNatClampNeg) (am_n M + 1) = 13 := am_u1_eq _ _ _
    have hln : am_L (am_new M 13 i.toNatClampNeg) (am_n M + 1) = i.toNatClampNeg := am_u1_eq _ _ _
    have hrow : am_I (am_new M 13 i.toNatClampNeg) (am_n M + 1) = fun _ => 0 := am_u1_eq _ _ _
    rw [am_at_arr hkd (by decide), hln, e1]
    show some (arrV _ _ _) = some (vp_cell (cy 13) (i.toNatClampNeg, .inl (am_I (am_new M 13 i.toNatClampNeg) (am_n M + 1))))
    rw [hrow]
    rfl
theorem am_newJ (cx : am_Ctx l R y cc nL ret ov M' mc ms G) {i : Int32} (cap : Nat) (hd : decode cc pc = .ok (.newarray .long, 2)) (hw : am_w (.arrayClass .long)) (hi : am_cnt i cap = true) (hcap : cap ≤ 100000) (hc : k + 1 ≤ R.cells) (hs : n + cap ≤ R.slots) (kk : G (pc + 2) lv (.inr (.inr (.inl (am_n M + 1))) :: st) (am_new M 15 i.toNatClampNeg) (k + 1) (n + cap)) : G pc lv (.inl i :: st) M k n := by
  obtain ⟨p, e, s, m, args, below, meth, c, B, ad, H0, D, cy, Q, rfl, hQ, hx, hb, hml, hown, hT, hK, hr, hlk, hnm⟩ := cx
  intro H locs ls hH hL hl
  obtain ⟨hi0, hi1⟩ := am_cnt_ok hi
  have hz := hH.1
  refine va_newaK (atype := .long) hx hb (hT.1 _ hw args) rfl hd rfl hi0 rfl (Nat.le_trans (Nat.mul_le_mul hi1 (show componentBytes .long ≤ 8 by decide)) (by omega)) hc (by omega) (h := B + (am_n M + 1)) (by omega) fun H1 cA e1 z1 o1 hAr hNm => ?_
  have hcy : cA = cy 15 := Option.some.inj (hNm.symm.trans (hK.2 2 _ rfl).2)
  subst hcy
  refine W.widen (k := k + 1) (n := n + cap) (Nat.le_refl _) (by omega) ?_
  have hk := kk H1 locs ls (hH.push (by omega) (fun q hq => o1 q (by omega)) ?_) hL hl
  · have e2 : am_rv B (am_n M + 1) = .ref (B + (am_n M + 1)) := am_rv_pos B (by omega)
    have hk2 : W p l e R s m args below meth c H1 locs (k + 1) (n + cap) _ (F0 m (pc + 2) ls (am_rv B (am_n M + 1) :: st.map (am_v B ad))) := hk
    rw [e2] at hk2
    exact hk2
  · have hkd : am_K (am_new M 15 i.toNatClampNeg) (am_n M + 1) = 15 := am_u1_eq _ _ _
    have hln : am_L (am_new M 15 i.toNatClampNeg) (am_n M + 1) = i.toNatClampNeg := am_u1_eq _ _ _
    have hrow : am_J (am_new M 15 i.toNatClampNeg) (am_n M + 1) = fun _ => 0 := am_u1_eq _ _ _
    rw [am_at_arr hkd (by decide), hln, e1]
    show some (arrV _ _ _) = some (vp_cell (cy 15) (i.toNatClampNeg, .inr (.inl (am_J (am_new M 15 i.toNatClampNeg) (am_n M + 1)))))
    rw [hrow]
    rfl
theorem am_newZ (cx : am_Ctx l R y cc nL ret ov M' mc ms G) {i : Int32} (cap : Nat) (hd : decode cc pc = .ok (.newarray .boolean, 2)) (hw : am_w (.arrayClass .boolean)) (hi : am_cnt i cap = true) (hcap : cap ≤ 100000) (hc : k + 1 ≤ R.cells) (hs : n + cap ≤ R.slots) (kk : G (pc + 2) lv (.inr (.inr (.inl (am_n M + 1))) :: st) (am_new M 16 i.toNatClampNeg) (k + 1) (n + cap)) : G pc lv (.inl i :: st) M k n := by
  obtain ⟨p, e, s, m, args, below, meth, c, B, ad, H0, D, cy, Q, rfl, hQ, hx, hb, hml, hown, hT, hK, hr, hlk, hnm⟩ := cx
  intro H locs ls hH hL hl
  obtain ⟨hi0, hi1⟩ := am_cnt_ok hi
  have hz := hH.1
  refine va_newaK (atype := .boolean) hx hb (hT.1 _ hw args) rfl hd rfl hi0 rfl (Nat.le_trans (Nat.mul_le_mul hi1 (show componentBytes .boolean ≤ 8 by decide)) (by omega)) hc (by omega) (h := B + (am_n M + 1)) (by omega) fun H1 cA e1 z1 o1 hAr hNm => ?_
  have hcy : cA = cy 16 := Option.some.inj (hNm.symm.trans (hK.2 3 _ rfl).2)
  subst hcy
  refine W.widen (k := k + 1) (n := n + cap) (Nat.le_refl _) (by omega) ?_
  have hk := kk H1 locs ls (hH.push (by omega) (fun q hq => o1 q (by omega)) ?_) hL hl
  · have e2 : am_rv B (am_n M + 1) = .ref (B + (am_n M + 1)) := am_rv_pos B (by omega)
    have hk2 : W p l e R s m args below meth c H1 locs (k + 1) (n + cap) _ (F0 m (pc + 2) ls (am_rv B (am_n M + 1) :: st.map (am_v B ad))) := hk
    rw [e2] at hk2
    exact hk2
  · have hkd : am_K (am_new M 16 i.toNatClampNeg) (am_n M + 1) = 16 := am_u1_eq _ _ _
    have hln : am_L (am_new M 16 i.toNatClampNeg) (am_n M + 1) = i.toNatClampNeg := am_u1_eq _ _ _
    have hrow : am_I (am_new M 16 i.toNatClampNeg) (am_n M + 1) = fun _ => 0 := am_u1_eq _ _ _
    rw [am_at_arr hkd (by decide), hln, e1]
    show some (arrV _ _ _) = some (vp_cell (cy 16) (i.toNatClampNeg, .inl (am_I (am_new M 16 i.toNatClampNeg) (am_n M + 1))))
    rw [hrow]
    rfl
theorem am_anew17 (cx : am_Ctx l R y cc nL ret ov M' mc ms G) {i : Int32} {idx : Nat} (cap : Nat) (hd : decode cc pc = .ok (.anewarray idx, 3)) (hw : am_w (.classLink y.cls idx RX6)) (hw2 : Cond.arrayOver (.object RX6) ∈ lw_tbl) (hi : am_cnt i cap = true) (hcap : cap ≤ 100000) (hc : k + 1 ≤ R.cells) (hs : n + cap ≤ R.slots) (kk : G (pc + 3) lv (.inr (.inr (.inl (am_n M + 1))) :: st) (am_new M 17 i.toNatClampNeg) (k + 1) (n + cap)) : G pc lv (.inl i :: st) M k n := by
  obtain ⟨p, e, s, m, args, below, meth, c, B, ad, H0, D, cy, Q, rfl, hQ, hx, hb, hml, hown, hT, hK, hr, hlk, hnm⟩ := cx
  intro H locs ls hH hL hl
  obtain ⟨hi0, hi1⟩ := am_cnt_ok hi
  have hz := hH.1
  refine W.anew hx hb hown (hT.1 _ hw args) (hT.2.2.1 _ hw2).use rfl hd rfl hi0 (by omega) hc (by omega) fun cA kA comp f1 f2 f3 f4 => ?_
  have hcy : cA = cy 17 := by
    obtain ⟨kA2, comp2, -, -, -, q4⟩ := (hK.2 4 _ rfl).2
    exact Option.some.inj (f1.symm.trans q4)
  subst hcy
  refine W.widen (k := k + 1) (n := n + cap) (Nat.le_refl _) (by omega) ?_
  have hk := kk _ locs ls (hH.push (H' := H.push { cls := cy 17, slots := Array.replicate i.toNatClampNeg .null, vm := .none }) (by simp) (fun q hq => by rw [Array.getElem?_push, if_neg (Nat.ne_of_lt hq)]) ?_) hL hl
  · have e2 : am_rv B (am_n M + 1) = .ref H.size := by rw [am_rv_pos B (by omega), show B + (am_n M + 1) = H.size by omega]
    have hk2 : W p l e R s m args below meth c (H.push { cls := cy 17, slots := Array.replicate i.toNatClampNeg .null, vm := .none }) locs (k + 1) (n + cap) _ (F0 m (pc + 3) ls (am_rv B (am_n M + 1) :: st.map (am_v B ad))) := hk
    rw [e2] at hk2
    exact hk2
  · have hkd : am_K (am_new M 17 i.toNatClampNeg) (am_n M + 1) = 17 := am_u1_eq _ _ _
    have hln : am_L (am_new M 17 i.toNatClampNeg) (am_n M + 1) = i.toNatClampNeg := am_u1_eq _ _ _
    have hrow : am_R (am_new M 17 i.toNatClampNeg) (am_n M + 1) = fun _ => 0 := am_u1_eq _ _ _
    rw [am_at_arr hkd (by decide), hln]
    rw [show B + (am_n M + 1) = H.size by omega, Array.getElem?_push, if_pos rfl, arrV_new]
    show some (arrV _ _ _) = some (arrV (cy 17) i.toNatClampNeg (fun j => va_rf (am_ro B (am_R (am_new M 17 i.toNatClampNeg) (am_n M + 1) j))))
    rw [hrow]
    rfl
theorem am_anew18 (cx : am_Ctx l R y cc nL ret ov M' mc ms G) {i : Int32} {idx : Nat} (cap : Nat) (hd : decode cc pc = .ok (.anewarray idx, 3)) (hw : am_w (.classLink y.cls idx RX10)) (hw2 : Cond.arrayOver (.object RX10) ∈ lw_tbl) (hi : am_cnt i cap = true) (hcap : cap ≤ 100000) (hc : k + 1 ≤ R.cells) (hs : n + cap ≤ R.slots) (kk : G (pc + 3) lv (.inr (.inr (.inl (am_n M + 1))) :: st) (am_new M 18 i.toNatClampNeg) (k + 1) (n + cap)) : G pc lv (.inl i :: st) M k n := by
  obtain ⟨p, e, s, m, args, below, meth, c, B, ad, H0, D, cy, Q, rfl, hQ, hx, hb, hml, hown, hT, hK, hr, hlk, hnm⟩ := cx
  intro H locs ls hH hL hl
  obtain ⟨hi0, hi1⟩ := am_cnt_ok hi
  have hz := hH.1
  refine W.anew hx hb hown (hT.1 _ hw args) (hT.2.2.1 _ hw2).use rfl hd rfl hi0 (by omega) hc (by omega) fun cA kA comp f1 f2 f3 f4 => ?_
  have hcy : cA = cy 18 := by
    obtain ⟨kA2, comp2, -, -, -, q4⟩ := (hK.2 5 _ rfl).2
    exact Option.some.inj (f1.symm.trans q4)
  subst hcy
  refine W.widen (k := k + 1) (n := n + cap) (Nat.le_refl _) (by omega) ?_
  have hk := kk _ locs ls (hH.push (H' := H.push { cls := cy 18, slots := Array.replicate i.toNatClampNeg .null, vm := .none }) (by simp) (fun q hq => by rw [Array.getElem?_push, if_neg (Nat.ne_of_lt hq)]) ?_) hL hl
  · have e2 : am_rv B (am_n M + 1) = .ref H.size := by rw [am_rv_pos B (by omega), show B + (am_n M + 1) = H.size by omega]
    have hk2 : W p l e R s m args below meth c (H.push { cls := cy 18, slots := Array.replicate i.toNatClampNeg .null, vm := .none }) locs (k + 1) (n + cap) _ (F0 m (pc + 3) ls (am_rv B (am_n M + 1) :: st.map (am_v B ad))) := hk
    rw [e2] at hk2
    exact hk2
  · have hkd : am_K (am_new M 18 i.toNatClampNeg) (am_n M + 1) = 18 := am_u1_eq _ _ _
    have hln : am_L (am_new M 18 i.toNatClampNeg) (am_n M + 1) = i.toNatClampNeg := am_u1_eq _ _ _
    have hrow : am_R (am_new M 18 i.toNatClampNeg) (am_n M + 1) = fun _ => 0 := am_u1_eq _ _ _
    rw [am_at_arr hkd (by decide), hln]
    rw [show B + (am_n M + 1) = H.size by omega, Array.getElem?_push, if_pos rfl, arrV_new]
    show some (arrV _ _ _) = some (arrV (cy 18) i.toNatClampNeg (fun j => va_rf (am_ro B (am_R (am_new M 18 i.toNatClampNeg) (am_n M + 1) j))))
    rw [hrow]
    rfl
theorem am_callV (cx : am_Ctx l R y cc nL ret ov M' mc ms G) {r kd idx np maxL2 : Nat} {y2 : MethodName} {cc2 : ByteArray} {ret2 : Option FieldType} (As : List am_A) {rest : List am_A} {ov2 : Option am_A} {M2 : am_Mem} {rm2 : Room} {mc2 ms2 : Nat} (hd : decode cc pc = .ok (.invokevirtual idx, 3)) (hC : am_CV y.cls idx y2 cc2 maxL2 ret2 np kd) (hM : am_Met l y2 cc2 maxL2 ret2 rm2 mc2 ms2 (.inr (.inr (.inl r)) :: As) M ov2 M2) (hk : am_K M r = kd) (hR : rm2.cells = mc2 ∧ rm2.slots = ms2 ∧ rm2.frames + 1 ≤ R.frames ∧ 8 + (maxL2 + 11) + rm2.locals ≤ R.locals) (hlen : As.length = np) (hrest : (rest.map am_cat).sum ≤ 8) (hcs : k + mc2 ≤ R.cells ∧ n + ms2 ≤ R.slots) (kk : G (pc + 3) lv (ov2.toList ++ rest) M2 (k + mc2) (n + ms2)) : G pc lv (As.reverse ++ .inr (.inr (.inl r)) :: rest) M k n := by
  obtain ⟨p, e, s, m, args, below, meth, c, B, ad, H0, D, cy, Q, rfl, hQ, hx, hb, hml, hown, hT, hK, hr, hlk, hnm⟩ := cx
  intro H locs ls hH hL hl
  obtain ⟨hCB, hlink, hinst, hsel, h13, T2, N2, hvc⟩ := hC
  have hpos := hH.lives (r := r) (by rw [hk]; omega)
  have h1 := hH.2.2.1 r hpos.1 hpos.2
  rw [am_at_obj hk h13] at h1
  obtain ⟨cell, q1, q2, q3, -⟩ := h1
  have hf := (hK.1 kd _ hvc).2.1
  have hM1 := hM B ad H0 D cy
  rw [List.map_cons, show am_v B ad (.inr (.inr (.inl r))) = .ref (B + r) from am_rv_pos B hpos.1] at hM1
  show W p l e R s m args below meth c H locs k n _ (F0 m pc ls ((As.reverse ++ .inr (.inr (.inl r)) :: rest).map (am_v B ad)))
  rw [am_rs, show am_v B ad (.inr (.inr (.inl r))) = .ref (B + r) from am_rv_pos B hpos.1]
  have run := W.runV (p := p) (l := l) (e := e) (R := R) (below := below) (meth := meth) (locs := locs) (cells := k) (slots := n) (Ts := []) (As := As.map (am_v B ad)) (rest := rest.map (am_v B ad)) (b := B + r) (g := F0 m pc ls ((As.map (am_v B ad)).reverse ++ .ref (B + r) :: rest.map (am_v B ad))) ⟨hx, hb, hml, hown, fun w h => by cases h⟩ hM1 ⟨am_cb hT hCB hR (hT.1 _ hlink args), hT.1 _ hinst args, hT.1 _ hsel args⟩ ⟨am_blind, ⟨cell, q1, by rw [q3]; rfl, by rw [q2]; exact hf⟩, fun U hU hW => ⟨rfl, by rw [hU]; exact hH, va_K.moved hW.alike hK, hT.warm hW⟩⟩ rfl (by rw [List.length_map]; exact hlen) hl.1 rfl (by show 2 * 0 + _ ≤ 8; rw [am_rcat]; omega) hd hcs
  intro T hTT X
  obtain ⟨v, st0, t, T', L, h0, X', hL', e1, ⟨hv, hq⟩, go⟩ := run T hTT X
  have hv := Outcome.returned.inj hv
  subst hv
  obtain ⟨t2, a1, b1⟩ := kk T'.heap (locs ++ L) ls (by rw [e1]; exact hq) (fun q hq' => (List.mem_append.mp hq').elim (fun h => hL q h) (fun h => hL' q h)) hl T' rfl X'
  rw [← am_pop] at a1
  exact ⟨t2, go t2 a1, b1⟩
theorem am_callS (cx : am_Ctx l R y cc nL ret ov M' mc ms G) {idx np maxL2 : Nat} {y2 : MethodName} {cc2 : ByteArray} {ret2 : Option FieldType} (As : List am_A) {rest : List am_A} {ov2 : Option am_A} {M2 : am_Mem} {rm2 : Room} {mc2 ms2 : Nat} (hd : decode cc pc = .ok (.invokestatic idx, 3)) (hC : am_CS y.cls idx y2 cc2 maxL2 ret2 np) (hM : am_Met l y2 cc2 maxL2 ret2 rm2 mc2 ms2 As M ov2 M2) (hR : rm2.cells = mc2 ∧ rm2.slots = ms2 ∧ rm2.frames + 1 ≤ R.frames ∧ 8 + (maxL2 + 11) + rm2.locals ≤ R.locals) (hlen : As.length = np) (hrest : (rest.map am_cat).sum ≤ 8) (hcs : k + mc2 ≤ R.cells ∧ n + ms2 ≤ R.slots) (kk : G (pc + 3) lv (ov2.toList ++ rest) M2 (k + mc2) (n + ms2)) : G pc lv (As.reverse ++ rest) M k n := by
  obtain ⟨p, e, s, m, args, below, meth, c, B, ad, H0, D, cy, Q, rfl, hQ, hx, hb, hml, hown, hT, hK, hr, hlk, hnm⟩ := cx
  intro H locs ls hH hL hl
  obtain ⟨hCB, hlink, hstat⟩ := hC
  show W p l e R s m args below meth c H locs k n _ (F0 m pc ls ((As.reverse ++ rest).map (am_v B ad)))
  rw [List.map_append, List.map_reverse]
  have run := W.runS (p := p) (l := l) (e := e) (R := R) (below := below) (meth := meth) (locs := locs) (cells := k) (slots := n) (Ts := []) (As := As.map (am_v B ad)) (rest := rest.map (am_v B ad)) (g := F0 m pc ls ((As.map (am_v B ad)).reverse ++ rest.map (am_v B ad))) ⟨hx, hb, hml, hown, fun w h => by cases h⟩ (hM B ad H0 D cy) ⟨am_cb hT hCB hR (hT.1 _ hlink args), hT.1 _ hstat args⟩ ⟨am_blind, fun U hU hW => ⟨rfl, by rw [hU]; exact hH, va_K.moved hW.alike hK, hT.warm hW⟩⟩ rfl (by rw [List.length_map]; exact hlen) hl.1 rfl (by show 2 * 0 + _ ≤ 8; rw [am_rcat]; omega) hd hcs
  intro T hTT X
  obtain ⟨v, st0, t, T', L, h0, X', hL', e1, ⟨hv, hq⟩, go⟩ := run T hTT X
  have hv := Outcome.returned.inj hv
  subst hv
  obtain ⟨t2, a1, b1⟩ := kk T'.heap (locs ++ L) ls (by rw [e1]; exact hq) (fun q hq' => (List.mem_append.mp hq').elim (fun h => hL q h) (fun h => hL' q h)) hl T' rfl X'
  rw [← am_pop] at a1
  exact ⟨t2, go t2 a1, b1⟩
theorem am_callSN (cx : am_Ctx l R y cc nL ret ov M' mc ms G) {idx np maxL2 : Nat} {y2 : MethodName} {cc2 : ByteArray} {ret2 : Option FieldType} {host : String} (As : List am_A) {rest : List am_A} {ov2 : Option am_A} {M2 : am_Mem} {rm2 : Room} {mc2 ms2 : Nat} (hd : decode cc pc = .ok (.invokestatic idx, 3)) (hC : am_CSN y.cls idx y2 cc2 maxL2 ret2 np host) (hM : am_Met l y2 cc2 maxL2 ret2 rm2 mc2 ms2 As M ov2 M2) (hR : rm2.cells = mc2 ∧ rm2.slots = ms2 ∧ rm2.frames + 1 ≤ R.frames ∧ 8 + (maxL2 + 11) + rm2.locals ≤ R.locals) (hlen : As.length = np) (hrest : (rest.map am_cat).sum ≤ 8) (hcs : k + mc2 ≤ R.cells ∧ n + ms2 ≤ R.slots) (kk : G (pc + 3) lv (ov2.toList ++ rest) M2 (k + mc2) (n + ms2)) : G pc lv (As.reverse ++ rest) M k n := by
  obtain ⟨p, e, s, m, args, below, meth, c, B, ad, H0, D, cy, Q, rfl, hQ, hx, hb, hml, hown, hT, hK, hr, hlk, hnm⟩ := cx
  intro H locs ls hH hL hl
  obtain ⟨hCB, hlink, hstat⟩ := hC
  show W p l e R s m args below meth c H locs k n _ (F0 m pc ls ((As.reverse ++ rest).map (am_v B ad)))
  rw [List.map_append, List.map_reverse]
  have run := va_runSN (p := p) (l := l) (e := e) (R := R) (below := below) (meth := meth) (locs := locs) (cells := k) (slots := n) (Ts := []) (As := As.map (am_v B ad)) (rest := rest.map (am_v B ad)) (g := F0 m pc ls ((As.map (am_v B ad)).reverse ++ rest.map (am_v B ad))) ⟨hx, hb, hml, hown, fun w h => by cases h⟩ (hM B ad H0 D cy) ⟨am_cn hT hCB hR hlink, hT.1 _ hstat args, trivial⟩ ⟨am_blind, fun U hU hW => ⟨rfl, by rw [hU]; exact hH, va_K.moved hW.alike hK, hT.warm hW⟩⟩ rfl (by rw [List.length_map]; exact hlen) hl.1 rfl (by show 2 * 0 + _ ≤ 8; rw [am_rcat]; omega) hd hcs
  intro T hTT X
  obtain ⟨v, st0, t, T', L, h0, X', hL', e1, e2, ⟨hv, hq⟩, go⟩ := run T hTT X
  have hv := Outcome.returned.inj hv
  subst hv
  obtain ⟨t2, a1, b1⟩ := kk T'.heap (locs ++ L) ls (by rw [e1]; exact hq) (fun q hq' => (List.mem_append.mp hq').elim (fun h => hL q h) (fun h => hL' q h)) hl T' rfl X'
  rw [← am_pop] at a1
  exact ⟨t2, go t2 a1, b1⟩
theorem am_callI (cx : am_Ctx l R y cc nL ret ov M' mc ms G) {r idx np maxL2 : Nat} {y2 : MethodName} {cc2 : ByteArray} (As : List am_A) {rest : List am_A} {ov2 : Option am_A} {M2 : am_Mem} {rm2 : Room} {mc2 ms2 : Nat} (hd : decode cc pc = .ok (.invokespecial idx, 3)) (hC : am_CI y.cls idx y2 cc2 maxL2 np) (hM : am_Met l y2 cc2 maxL2 none rm2 mc2 ms2 (.inr (.inr (.inl r)) :: As) M ov2 M2) (hk : ¬ am_K M r = 99) (hR : rm2.cells = mc2 ∧ rm2.slots = ms2 ∧ rm2.frames + 1 ≤ R.frames ∧ 8 + (maxL2 + 11) + rm2.locals ≤ R.locals) (hlen : As.length = np) (hrest : (rest.map am_cat).sum ≤ 8) (hcs : k + mc2 ≤ R.cells ∧ n + ms2 ≤ R.slots) (kk : G (pc + 3) lv (ov2.toList ++ rest) M2 (k + mc2) (n + ms2)) : G pc lv (As.reverse ++ .inr (.inr (.inl r)) :: rest) M k n := by
  obtain ⟨p, e, s, m, args, below, meth, c, B, ad, H0, D, cy, Q, rfl, hQ, hx, hb, hml, hown, hT, hK, hr, hlk, hnm⟩ := cx
  intro H locs ls hH hL hl
  obtain ⟨hCB, hlink, hinst, hnm2⟩ := hC
  have hpos := hH.lives (r := r) hk
  have hM1 := hM B ad H0 D cy
  rw [List.map_cons, show am_v B ad (.inr (.inr (.inl r))) = .ref (B + r) from am_rv_pos B hpos.1] at hM1
  show W p l e R s m args below meth c H locs k n _ (F0 m pc ls ((As.reverse ++ .inr (.inr (.inl r)) :: rest).map (am_v B ad)))
  rw [am_rs, show am_v B ad (.inr (.inr (.inl r))) = .ref (B + r) from am_rv_pos B hpos.1]
  have run := W.runI (p := p) (l := l) (e := e) (R := R) (below := below) (meth := meth) (locs := locs) (cells := k) (slots := n) (Ts := []) (As := As.map (am_v B ad)) (rest := rest.map (am_v B ad)) (b := B + r) (g := F0 m pc ls ((As.map (am_v B ad)).reverse ++ .ref (B + r) :: rest.map (am_v B ad))) ⟨hx, hb, hml, hown, fun w h => by cases h⟩ hM1 ⟨am_cb hT hCB hR (hT.1 _ hlink args), hnm2, hT.1 _ hinst args⟩ ⟨am_blind, fun U hU hW => ⟨rfl, by rw [hU]; exact hH, va_K.moved hW.alike hK, hT.warm hW⟩⟩ rfl (by rw [List.length_map]; exact hlen) hl.1 rfl (by show 2 * 0 + _ ≤ 8; rw [am_rcat]; omega) hd hcs
  intro T hTT X
  obtain ⟨v, st0, t, T', L, h0, X', hL', e1, ⟨hv, hq⟩, go⟩ := run T hTT X
  have hv := Outcome.returned.inj hv
  subst hv
  obtain ⟨t2, a1, b1⟩ := kk T'.heap (locs ++ L) ls (by rw [e1]; exact hq) (fun q hq' => (List.mem_append.mp hq').elim (fun h => hL q h) (fun h => hL' q h)) hl T' rfl X'
  rw [← am_pop] at a1
  exact ⟨t2, go t2 a1, b1⟩
theorem am_callIN (cx : am_Ctx l R y cc nL ret ov M' mc ms G) {r idx np maxL2 : Nat} {y2 : MethodName} {cc2 : ByteArray} {host : String} (As : List am_A) {rest : List am_A} {ov2 : Option am_A} {M2 : am_Mem} {rm2 : Room} {mc2 ms2 : Nat} (hd : decode cc pc = .ok (.invokespecial idx, 3)) (hC : am_CIN y.cls idx y2 cc2 maxL2 np host) (hM : am_Met l y2 cc2 maxL2 none rm2 mc2 ms2 (.inr (.inr (.inl r)) :: As) M ov2 M2) (hk : ¬ am_K M r = 99) (hR : rm2.cells = mc2 ∧ rm2.slots = ms2 ∧ rm2.frames + 1 ≤ R.frames ∧ 8 + (maxL2 + 11) + rm2.locals ≤ R.locals) (hlen : As.length = np) (hrest : (rest.map am_cat).sum ≤ 8) (hcs : k + mc2 ≤ R.cells ∧ n + ms2 ≤ R.slots) (kk : G (pc + 3) lv (ov2.toList ++ rest) M2 (k + mc2) (n + ms2)) : G pc lv (As.reverse ++ .inr (.inr (.inl r)) :: rest) M k n := by
  obtain ⟨p, e, s, m, args, below, meth, c, B, ad, H0, D, cy, Q, rfl, hQ, hx, hb, hml, hown, hT, hK, hr, hlk, hnm⟩ := cx
  intro H locs ls hH hL hl
  obtain ⟨hCB, hlink, hinst, hnm2⟩ := hC
  have hpos := hH.lives (r := r) hk
  have hM1 := hM B ad H0 D cy
  rw [List.map_cons, show am_v B ad (.inr (.inr (.inl r))) = .ref (B + r) from am_rv_pos B hpos.1] at hM1
  show W p l e R s m args below meth c H locs k n _ (F0 m pc ls ((As.reverse ++ .inr (.inr (.inl r)) :: rest).map (am_v B ad)))
  rw [am_rs, show am_v B ad (.inr (.inr (.inl r))) = .ref (B + r) from am_rv_pos B hpos.1]
  have run := va_runIN (p := p) (l := l) (e := e) (R := R) (below := below) (meth := meth) (locs := locs) (cells := k) (slots := n) (Ts := []) (As := As.map (am_v B ad)) (rest := rest.map (am_v B ad)) (b := B + r) (g := F0 m pc ls ((As.map (am_v B ad)).reverse ++ .ref (B + r) :: rest.map (am_v B ad))) ⟨hx, hb, hml, hown, fun w h => by cases h⟩ hM1 ⟨am_cn hT hCB hR hlink, hnm2, hT.1 _ hinst args⟩ ⟨am_blind, fun U hU hW => ⟨rfl, by rw [hU]; exact hH, va_K.moved hW.alike hK, hT.warm hW⟩⟩ rfl (by rw [List.length_map]; exact hlen) hl.1 rfl (by show 2 * 0 + _ ≤ 8; rw [am_rcat]; omega) hd hcs
  intro T hTT X
  obtain ⟨v, st0, t, T', L, h0, X', hL', e1, e2, ⟨hv, hq⟩, go⟩ := run T hTT X
  have hv := Outcome.returned.inj hv
  subst hv
  obtain ⟨t2, a1, b1⟩ := kk T'.heap (locs ++ L) ls (by rw [e1]; exact hq) (fun q hq' => (List.mem_append.mp hq').elim (fun h => hL q h) (fun h => hL' q h)) hl T' rfl X'
  rw [← am_pop] at a1
  exact ⟨t2, go t2 a1, b1⟩
theorem am_objInit (cx : am_Ctx l R y cc nL ret ov M' mc ms G) {r idx : Nat} {rest : List am_A} (hd : decode cc pc = .ok (.invokespecial idx, 3)) (h1 : am_w (.methodLink y.cls idx Lib.objectInit)) (h2 : am_w (.instanceMethod Lib.objectInit)) (h3 : am_w (.code Lib.objectInit ⟨#[0xb1]⟩ 1 none)) (hk : ¬ am_K M r = 99) (hfr : 1 ≤ R.frames) (hlo : (rest.map am_cat).sum + 12 ≤ R.locals) (kk : G (pc + 3) lv rest M k n) : G pc lv (.inr (.inr (.inl r)) :: rest) M k n := by
  obtain ⟨p, e, s, m, args, below, meth, c, B, ad, H0, D, cy, Q, rfl, hQ, hx, hb, hml, hown, hT, hK, hr, hlk, hnm⟩ := cx
  intro H locs ls hH hL hl
  have hpos := hH.lives (r := r) hk
  show W p l e R s m args below meth c H locs k n _ (F0 m pc ls (am_rv B r :: rest.map (am_v B ad)))
  rw [am_rv_pos B hpos.1]
  exact W.objInit hx hb hown (hT.1 _ h1 args) (hT.1 _ h2 args) (hT.1 _ h3 args) rfl (hl.1.trans hml.symm) rfl hd hfr (by show 2 * 0 + _ + 12 ≤ _; rw [am_rcat]; omega) (kk H locs ls hH hL hl)
theorem am_mmax (cx : am_Ctx l R y cc nL ret ov M' mc ms G) {idx : Nat} {x z : Int32} (hd : decode cc pc = .ok (.invokestatic idx, 3)) (h1 : am_w (.methodLink y.cls idx Lib.Math.max.name)) (h2 : am_w (.static Lib.Math.max.name)) (h3 : am_w (.initialized "java/lang/Math")) (h4 : am_w (.code Lib.Math.max.name Lib.Math.max.code 2 (some .int))) (hfr : 1 ≤ R.frames) (hlo : (st.map am_cat).sum + 13 ≤ R.locals) (hc : k ≤ R.cells) (hs : n ≤ R.slots) (kk : G (pc + 3) lv (.inl (if x < z then z else x) :: st) M k n) : G pc lv (.inl z :: .inl x :: st) M k n := by
  obtain ⟨p, e, s, m, args, below, meth, c, B, ad, H0, D, cy, Q, rfl, hQ, hx, hb, hml, hown, hT, hK, hr, hlk, hnm⟩ := cx
  intro H locs ls hH hL hl
  exact va_mmax hx hb (hml.trans hl.1.symm) hown (hT.1 _ h1 args) (hT.1 _ h2 args) (hT.1 _ h3 args) (hT.1 _ h4 args) hfr (by rw [am_rcat]; exact hlo) hc hs hd (kk H locs ls hH hL hl)
theorem am_mmin (cx : am_Ctx l R y cc nL ret ov M' mc ms G) {idx : Nat} {x z : Int32} (hd : decode cc pc = .ok (.invokestatic idx, 3)) (h1 : am_w (.methodLink y.cls idx Lib.Math.min.name)) (h2 : am_w (.static Lib.Math.min.name)) (h3 : am_w (.initialized "java/lang/Math")) (h4 : am_w (.code Lib.Math.min.name Lib.Math.min.code 2 (some .int))) (hfr : 1 ≤ R.frames) (hlo : (st.map am_cat).sum + 13 ≤ R.locals) (hc : k ≤ R.cells) (hs : n ≤ R.slots) (kk : G (pc + 3) lv (.inl (if z < x then z else x) :: st) M k n) : G pc lv (.inl z :: .inl x :: st) M k n := by
  obtain ⟨p, e, s, m, args, below, meth, c, B, ad, H0, D, cy, Q, rfl, hQ, hx, hb, hml, hown, hT, hK, hr, hlk, hnm⟩ := cx
  intro H locs ls hH hL hl
  exact va_mmin hx hb (hml.trans hl.1.symm) hown (hT.1 _ h1 args) (hT.1 _ h2 args) (hT.1 _ h3 args) (hT.1 _ h4 args) hfr (by rw [am_rcat]; exact hlo) hc hs hd (kk H locs ls hH hL hl)
theorem am_mabs (cx : am_Ctx l R y cc nL ret ov M' mc ms G) {idx : Nat} {x : Int32} (hd : decode cc pc = .ok (.invokestatic idx, 3)) (h1 : am_w (.methodLink y.cls idx Lib.Math.abs.name)) (h2 : am_w (.static Lib.Math.abs.name)) (h3 : am_w (.initialized "java/lang/Math")) (h4 : am_w (.code Lib.Math.abs.name Lib.Math.abs.code 1 (some .int))) (hfr : 1 ≤ R.frames) (hlo : (st.map am_cat).sum + 13 ≤ R.locals) (hc : k ≤ R.cells) (hs : n ≤ R.slots) (kk : G (pc + 3) lv (.inl (if 0 ≤ x then x else 0 - x) :: st) M k n) : G pc lv (.inl x :: st) M k n := by
  obtain ⟨p, e, s, m, args, below, meth, c, B, ad, H0, D, cy, Q, rfl, hQ, hx, hb, hml, hown, hT, hK, hr, hlk, hnm⟩ := cx
  intro H locs ls hH hL hl
  exact va_mabs hx hb (hml.trans hl.1.symm) hown (hT.1 _ h1 args) (hT.1 _ h2 args) (hT.1 _ h3 args) (hT.1 _ h4 args) hfr (by rw [am_rcat]; exact hlo) hc hs hd (kk H locs ls hH hL hl)
end AMN
