theorem aw_1_21 : am_w (.initialized "java/lang/Throwable") := am_wm1 21 rfl rfl
def am_0 : am_Mem := (0, fun _ => 99, fun _ => 0, fun _ _ => 0, fun _ _ => 0, fun _ _ => 0)
/-- LAYER 2: for every script the law's function answers 1 -/
def am_Pure : Prop := ∀ Ls : Nat, Ls ≤ 3072 → ∀ xs : Nat → Int32, ∃ (N : Nat) (M' : am_Mem), fnL_law_b0 N Ls xs am_0 = some (1, M')
theorem st_classes {s : State} {b : Nat} (hts : ∀ w ∈ lw_tbl, w.before #[Value.ref b] s = true) : ∃ (dC : Nat → ClassId) (dI : Nat → Nat → Nat), ∀ (k : Nat) (q : vw_C), vwCl[k]? = some q → u_Kn s q.1 q.2.1 q.2.2 (dC k) (dI k) := by
  obtain ⟨c0, i0, h0⟩ := u_known (C := RX0) (T := TX0) (N := 6) (n := 6) hts (fun w h => (uw_0 w h).1) (hts _ aw_1_173.1)
  obtain ⟨c1, i1, h1⟩ := u_known (C := RX1) (T := TX1) (N := 2) (n := 2) hts (fun w h => (uw_1 w h).1) (hts _ aw_1_92.1)
  obtain ⟨c2, i2, h2⟩ := u_known (C := RX2) (T := TX2) (N := 6) (n := 6) hts (fun w h => (uw_2 w h).1) (hts _ aw_1_205.1)
  obtain ⟨c3, i3, h3⟩ := u_known (C := RX3) (T := TX3) (N := 8) (n := 8) hts (fun w h => (uw_3 w h).1) (hts _ aw_3_31.1)
  obtain ⟨c4, i4, h4⟩ := u_known (C := RX4) (T := TX4) (N := 5) (n := 5) hts (fun w h => (uw_4 w h).1) (hts _ aw_1_148.1)
  obtain ⟨c5, i5, h5⟩ := u_known (C := RX5) (T := TX5) (N := 4) (n := 4) hts (fun w h => (uw_5 w h).1) (hts _ aw_1_126.1)
  obtain ⟨c6, i6, h6⟩ := u_known (C := RX6) (T := TX6) (N := 4) (n := 4) hts (fun w h => (uw_6 w h).1) (hts _ aw_1_98.1)
  obtain ⟨c7, i7, h7⟩ := u_known (C := RX7) (T := TX7) (N := 2) (n := 2) hts (fun w h => (uw_7 w h).1) (hts _ aw_1_235.1)
  obtain ⟨c8, i8, h8⟩ := u_known (C := RX8) (T := TX8) (N := 13) (n := 13) hts (fun w h => (uw_8 w h).1) (hts _ aw_1_34.1)
  obtain ⟨c9, i9, h9⟩ := u_known (C := RX9) (T := TX9) (N := 3) (n := 3) hts (fun w h => (uw_9 w h).1) (hts _ aw_2_10.1)
  obtain ⟨c10, i10, h10⟩ := u_known (C := RX10) (T := TX10) (N := 11) (n := 11) hts (fun w h => (uw_10 w h).1) (hts _ aw_2_196.1)
  obtain ⟨c11, i11, h11⟩ := u_known (C := RX11) (T := TX11) (N := 12) (n := 12) hts (fun w h => (uw_11 w h).1) (hts _ aw_1_26.1)
  obtain ⟨c12, i12, h12⟩ := u_known (C := RX12) (T := TX12) (N := 49) (n := 49) hts (fun w h => (uw_12 w h).1) (hts _ aw_4_230.1)
  refine ⟨fun k => [c0, c1, c2, c3, c4, c5, c6, c7, c8, c9, c10, c11, c12].getD k c0, fun k => [i0, i1, i2, i3, i4, i5, i6, i7, i8, i9, i10, i11, i12].getD k i0, ?_⟩
  intro k q hq
  match k, hq with
  | 0, hq => cases hq; exact h0
  | 1, hq => cases hq; exact h1
  | 2, hq => cases hq; exact h2
  | 3, hq => cases hq; exact h3
  | 4, hq => cases hq; exact h4
  | 5, hq => cases hq; exact h5
  | 6, hq => cases hq; exact h6
  | 7, hq => cases hq; exact h7
  | 8, hq => cases hq; exact h8
  | 9, hq => cases hq; exact h9
  | 10, hq => cases hq; exact h10
  | 11, hq => cases hq; exact h11
  | 12, hq => cases hq; exact h12
  | k + 13, hq => simp [vwCl] at hq
theorem st_prim {s : State} {b : Nat} {ty : FieldType} (h : (Cond.arrayClass ty).before #[Value.ref b] s = true) (hno : ∀ C, ty ≠ .object C) : ∃ cA : ClassId, ArrOfT s cA ty ∧ va_RA s cA ty := by
  obtain ⟨c, k, comp, h1, h2, h3⟩ := Cond.arrayClass_spec h
  refine ⟨c, fun n z => ⟨fun q h => (by cases h), k, h2, comp, h3⟩, ?_⟩
  cases ty with
  | object C => exact absurd rfl (hno C)
  | _ => exact h1
theorem st_obj {s : State} {b : Nat} {C : String} (h : (Cond.arrayOver (.object C)).before #[Value.ref b] s = true) : ∃ cA : ClassId, ArrOfT s cA (.object C) ∧ va_RA s cA (.object C) := by
  obtain ⟨comp, c, k, h1, h2, h3, h4, h5⟩ := Cond.arrayOver_spec h
  exact ⟨c, fun n z => ⟨fun q h => (by cases h), k, h3, comp, h4⟩, k, comp, h3, h4, h1, h5⟩
theorem st_arr {s : State} {b : Nat} {t : FieldType} (h : (Cond.arrayOver (.array t)).before #[Value.ref b] s = true) : ∃ cA : ClassId, ArrOfT s cA (.array t) ∧ va_RA s cA (.array t) := by
  obtain ⟨comp, c, k, h1, h2, h3, h4, h5⟩ := arrayOverA_spec h
  exact ⟨c, fun n z => ⟨fun q h => (by cases h), k, h3, comp, h4⟩, h5⟩
theorem st_K {s : State} {b : Nat} (hts : ∀ w ∈ lw_tbl, w.before #[Value.ref b] s = true) : ∃ (D : va_G) (cy : Nat → ClassId), va_K D vwCl (am_tys cy) s := by
  obtain ⟨dC, dI, hC⟩ := st_classes hts
  obtain ⟨a13, b13⟩ := st_prim (hts _ aw_1_87.1) (fun C h => by cases h)
  obtain ⟨a14, b14⟩ := st_prim (hts _ aw_1_90.1) (fun C h => by cases h)
  obtain ⟨a15, b15⟩ := st_prim (hts _ aw_1_88.1) (fun C h => by cases h)
  obtain ⟨a16, b16⟩ := st_prim (hts _ aw_1_89.1) (fun C h => by cases h)
  obtain ⟨a17, b17⟩ := st_obj (hts _ an_1_154)
  obtain ⟨a18, b18⟩ := st_obj (hts _ an_2_16)
  obtain ⟨a19, b19⟩ := st_arr (hts _ an_1_40)
  obtain ⟨a20, b20⟩ := st_arr (hts _ an_1_132)
  refine ⟨(dC, dI), fun k => [a13, a14, a15, a16, a17, a18, a19, a20].getD (k - 13) a13, hC, fun k q hq => ?_⟩
  match k, hq with
  | 0, hq => cases hq; exact b13
  | 1, hq => cases hq; exact b14
  | 2, hq => cases hq; exact b15
  | 3, hq => cases hq; exact b16
  | 4, hq => cases hq; exact b17
  | 5, hq => cases hq; exact b18
  | 6, hq => cases hq; exact b19
  | 7, hq => cases hq; exact b20
  | k + 8, hq => simp [am_tys] at hq
def st_F : List Cond := flatC (Jvm.Cond.and given_1 narrow_1)
def st_tm (i : Nat) : Term := .string (am_so i) (am_si i)
theorem st_ex : ∀ i, i < 7 → Cond.exactly (st_tm i) "java/lang/String" ∈ st_F := by decide +kernel
theorem st_co : ∀ i, i < 7 → Cond.eq (.field (st_tm i) "java/lang/String" "coder" "B") (.int 0) ∈ st_F := by decide +kernel
theorem st_ar : ∀ i, i < 7 → Cond.arrayOf (.field (st_tm i) "java/lang/String" "value" "[B") .byte ∈ st_F := by decide +kernel
theorem st_le : ∀ i, i < 7 → Cond.eq (.length (.field (st_tm i) "java/lang/String" "value" "[B")) (.int (Int32.ofNat (am_sle.getD i 0))) ∈ st_F := by decide +kernel
theorem st_el : ∀ i, i < 7 → ∀ j, j < am_sle.getD i 0 → Cond.eq (.elem (.field (st_tm i) "java/lang/String" "value" "[B") (.int (Int32.ofNat j))) (.int ((am_sby.getD i []).getD j 0)) ∈ st_F := by decide +kernel
theorem st_ne : ∀ i, i < 7 → ∀ j, j < 7 → i ≠ j → (Cond.not (Cond.eq (st_tm i) (st_tm j)) ∈ st_F ∨ Cond.not (Cond.eq (st_tm j) (st_tm i)) ∈ st_F) := by decide +kernel
theorem st_sr : ∀ i, i < 7 → Cond.stringRef (am_so i) (am_si i) (am_sx i) ∈ lw_tbl := by decide +kernel
theorem st_cs : Cond.eq (.static "java/lang/String" "COMPACT_STRINGS" "Z") (.int 1) ∈ st_F := by decide +kernel
theorem st_si : Cond.isRef (.static "jdk/internal/util/Preconditions" "SIOOBE_FORMATTER" "Ljava/util/function/BiFunction;") ∈ st_F := by decide +kernel
theorem st_us : Cond.isRef (.static Bundle.tN "UNASSIGNED_STACK" Bundle.steD) ∈ st_F := by decide +kernel
theorem st_ss : Cond.isRef (.static Bundle.tN "SUPPRESSED_SENTINEL" Bundle.listD) ∈ st_F := by decide +kernel
theorem st_l1 : Cond.laysStatic "java/lang/String" "COMPACT_STRINGS" "Z" ∈ lw_tbl := by decide +kernel
theorem st_l2 : Cond.laysStatic "jdk/internal/util/Preconditions" "SIOOBE_FORMATTER" "Ljava/util/function/BiFunction;" ∈ lw_tbl := by decide +kernel
theorem st_l3 : Cond.laysStatic Bundle.tN "UNASSIGNED_STACK" Bundle.steD ∈ lw_tbl := by decide +kernel
theorem st_l4 : Cond.laysStatic Bundle.tN "SUPPRESSED_SENTINEL" Bundle.listD ∈ lw_tbl := by decide +kernel
theorem st_ca : Cond.castable "java/util/NoSuchElementException" "java/util/NoSuchElementException" ∈ lw_tbl := by decide +kernel
theorem st_env {s : State} {b : Nat} (hts : ∀ w ∈ lw_tbl, w.before #[Value.ref b] s = true) (hgv : (Jvm.Cond.and given_1 narrow_1).before #[Value.ref b] s = true) (hbl : b < s.heap.size) : ∃ ad : Nat → Option Nat, ad 7 = some b ∧ am_T (s.heap.size - 1) ad s.heap s := by
  have hf := flat_of_before _ hgv
  have hA : ∀ a : Nat, a < s.heap.size → ¬ (fun q => s.heap.size - 1 < q) a := fun a ha h => by
    have h' : s.heap.size - 1 < a := h
    omega
  obtain ⟨adK, adV, hS, hev⟩ := vk_Sof (N := 7) (tm := st_tm) (len := am_sle) (byt := am_sby) (A := fun q => s.heap.size - 1 < q) (fun i _ => Nat.lt_trans (am_sle_lt i) (by decide)) (fun i hi => hf _ (st_ex i hi)) (fun i hi => hf _ (st_co i hi)) (fun i hi => hf _ (st_ar i hi)) (fun i hi => hf _ (st_le i hi)) (fun i hi j hj => hf _ (st_el i hi j hj)) (fun i j hi hj hne => (st_ne i hi j hj hne).elim (fun h => Or.inl (hf _ h)) (fun h => Or.inr (hf _ h))) hA
  have hq := va_Zqof (A := fun q => s.heap.size - 1 < q) (hts _ st_l2) (hts _ aw_1_19.1) (hf _ st_si) hA
  obtain ⟨o15, h15⟩ : ∃ o : Option Nat, va_Z "jdk/internal/util/Preconditions" "SIOOBE_FORMATTER" "Ljava/util/function/BiFunction;" (va_rf o) (fun q => s.heap.size - 1 < q) s s.heap := by
    rcases hq with h | ⟨t, h⟩
    · exact ⟨none, h⟩
    · exact ⟨some t, h⟩
  refine ⟨fun i => if i < 7 then some (adK i) else if i = 7 then some b else if i < 15 then some (adV (i - 8)) else o15, rfl, fun w hw a => word_at (args := #[Value.ref b]) (State.WarmedH.refl s) (good_of_word hw.2) (hts w hw.1), fun a i x h hm => va_Nw.of rfl (hts _ hm), fun C hm => va_AO.of (hts _ hm), fun t hm a => over_moved (a := #[Value.ref b]) (Vm.Alike.refl _) (hts _ hm), ⟨adK, adV, fun i hi => ⟨if_pos hi, ?_, ?_⟩, hS⟩, ?_, h15, ?_, ?_, va_Nw.of rfl (hts _ st_ca), fun x hx => va_Nw.of rfl (hts _ hx)⟩
  · show (if 8 + i < 7 then some (adK (8 + i)) else if 8 + i = 7 then some b else if 8 + i < 15 then some (adV (8 + i - 8)) else o15) = some (adV i)
    rw [if_neg (by omega), if_neg (by omega), if_pos (by omega), show 8 + i - 8 = i by omega]
  · exact vk_R.of (hts _ (st_sr i hi)) (hev i hi)
  · exact va_Zof (hts _ st_l1) (hts _ aw_1_17.1) (va_eqt (hf _ st_cs)) hA
  · exact vx_Zqof (hts _ st_l3) (hts _ aw_1_21.1) (hf _ st_us) hA
  · exact vx_Zqof (hts _ st_l4) (hts _ aw_1_21.1) (hf _ st_ss) hA
theorem st_H {s : State} {D : va_G} {cy : Nat → ClassId} (h : 0 < s.heap.size) : am_H (s.heap.size - 1) s.heap D cy am_0 s.heap := by
  refine ⟨by show s.heap.size = s.heap.size - 1 + 1 + 0; omega, fun q _ => rfl, fun a h1 h2 => ?_, fun a _ => rfl⟩
  have h2' : a ≤ 0 := h2
  omega

set_option maxHeartbeats 4000000 in
/-- THE LAW, from its entry, out of layer 2 -/
theorem whole_open (hpure : am_Pure) {p : Program} {e : Env} {s : State} {m : MethodId} {below : List Frame} {meth : Method} {c : Code} (l : Launch) (hflags : l.flags = flags0) {b L : Nat} {xs : Nat → Int32} (hL : L ≤ 3072) (C0 : lw_At p s m meth c b L xs) : W p l e room_1 s m #[Value.ref b] below meth c s.heap [] 0 0 (lw_Z below #[Value.ref b] s) (entryFrame m ([Value.ref b] : List Value).toArray 7) := by
  obtain ⟨hx, hb, hr, hml, hown, hts, hX, hbl, hlocks, hgv, hnm⟩ := C0
  have hst : l.stackTraces = false := by
    unfold Launch.stackTraces
    rw [hflags]
    decide
  obtain ⟨ad, h7, hT⟩ := st_env hts hgv hbl
  obtain ⟨D, cy, hK⟩ := st_K hts
  obtain ⟨N, M', hres⟩ := hpure L hL xs
  have hH := st_H (s := s) (D := D) (cy := cy) (by omega)
  have key := snL_law_b0 (l := l) (v := 1) (M' := M') (N := N) (Ls := L) (xs := xs) (G := am_W p l e room_1 s m #[Value.ref b] below meth c (s.heap.size - 1) ad s.heap D cy 7 (lw_Z below #[Value.ref b] s))
    ⟨p, e, s, m, #[Value.ref b], below, meth, c, s.heap.size - 1, ad, s.heap, D, cy, _, rfl, fun t ht => by
      obtain ⟨o, g1, g2, ⟨g3, g4⟩, L9, ⟨f1, f2, f3⟩, g6⟩ := ht
      refine ⟨o, g1, g2, g3, f1, f2, f3.weaken (fun z hz hlt => ?_) (Nat.le_refl _) (Nat.le_refl _)⟩
      have h9 : s.heap.size - 1 < z.base := g6 z hz
      have h10 : s.heap.size ≤ z.base := by omega
      exact absurd hlt (Nat.not_lt.mpr h10), hx, hb, hml, hown, hT, hK, hr, hlocks, hnm⟩
    ⟨p, e, s, m, #[Value.ref b], below, meth, c, s.heap.size - 1, ad, s.heap, D, cy, _, b, rfl, hx, hb, hml, h7, by omega, hX⟩ hst hres
  have hl := lv_entry ([.ref b]) (n := 7) (Nat.le_of_ble_eq_true rfl)
  rw [lg_entry_eq]
  refine key s.heap [] _ hH (fun q h => by cases h) ?_
  refine ⟨hl.1, hl.2.1, fun q hq => ?_⟩
  rw [List.mem_singleton.mp (show q ∈ [am_lv (s.heap.size - 1) ad (0, .inr (.inr (.inr 7)))] from hq)]
  show _ = some (Slot.val (va_rf (ad 7)))
  rw [h7]
  exact hl.2.2 (0, .ref b) List.mem_cons_self

