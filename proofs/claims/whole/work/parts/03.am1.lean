def am_ftl : List (List Nat) := [[2, 2, 2, 0, 0, 0], [2, 0], [2, 2, 2, 2, 0, 2], [0, 0, 2, 2, 1, 0, 0, 0], [2, 2, 2, 2, 0], [2, 2, 2, 2], [2, 2, 0, 0], [2, 0], [2, 0, 0, 0, 0, 1, 2, 0, 0, 2, 2, 2, 2], [2, 0, 0], [0, 0, 0, 2, 0, 0, 0, 2, 2, 2, 0], [2, 2, 2, 2, 2, 2, 2, 2, 2, 2, 2, 0], [0, 2, 0, 0, 0, 0, 0, 0, 1, 0, 0, 0, 2, 2, 2, 2, 2, 2, 0, 0, 2, 2, 2, 2, 2, 2, 2, 2, 2, 2, 2, 2, 2, 2, 2, 0, 2, 2, 0, 0, 0, 2, 0, 2, 2, 2, 2, 0, 2]]
/-! THE ABSTRACT MEMORY: things are numbered from 1 (0: null); each has a kind (0..12 a class's object, 13.. an array), a length, and places of ints, longs, references -/
abbrev am_Mem : Type := Nat × (Nat → Nat) × (Nat → Nat) × (Nat → Nat → Int32) × (Nat → Nat → Int64) × (Nat → Nat → Nat)
def am_n (M : am_Mem) : Nat := M.1
def am_K (M : am_Mem) : Nat → Nat := M.2.1
def am_L (M : am_Mem) : Nat → Nat := M.2.2.1
def am_I (M : am_Mem) : Nat → Nat → Int32 := M.2.2.2.1
def am_J (M : am_Mem) : Nat → Nat → Int64 := M.2.2.2.2.1
def am_R (M : am_Mem) : Nat → Nat → Nat := M.2.2.2.2.2
def am_u1 {α : Type} (f : Nat → α) (a : Nat) (v : α) : Nat → α := fun b => if b = a then v else f b
def am_up {α : Type} (f : Nat → Nat → α) (a i : Nat) (v : α) : Nat → Nat → α := am_u1 f a (am_u1 (f a) i v)
def am_wI (M : am_Mem) (a i : Nat) (v : Int32) : am_Mem := (am_n M, am_K M, am_L M, am_up (am_I M) a i v, am_J M, am_R M)
def am_wJ (M : am_Mem) (a i : Nat) (v : Int64) : am_Mem := (am_n M, am_K M, am_L M, am_I M, am_up (am_J M) a i v, am_R M)
def am_wR (M : am_Mem) (a i : Nat) (v : Nat) : am_Mem := (am_n M, am_K M, am_L M, am_I M, am_J M, am_up (am_R M) a i v)
/-- a new thing of kind k, of that length, all its places 0 -/
def am_new (M : am_Mem) (k len : Nat) : am_Mem := (am_n M + 1, am_u1 (am_K M) (am_n M + 1) k, am_u1 (am_L M) (am_n M + 1) len, am_u1 (am_I M) (am_n M + 1) (fun _ => 0), am_u1 (am_J M) (am_n M + 1) (fun _ => 0), am_u1 (am_R M) (am_n M + 1) (fun _ => 0))
theorem am_u1_eq {α : Type} (f : Nat → α) (a : Nat) (v : α) : am_u1 f a v a = v := if_pos rfl
theorem am_u1_ne {α : Type} (f : Nat → α) {a b : Nat} (v : α) (h : b ≠ a) : am_u1 f a v b = f b := if_neg h
theorem am_up_ne {α : Type} (f : Nat → Nat → α) {a b : Nat} (i : Nat) (v : α) (h : b ≠ a) : am_up f a i v b = f b := if_neg h
theorem am_up_at {α : Type} (f : Nat → Nat → α) (a i : Nat) (v : α) : am_up f a i v a = am_u1 (f a) i v := if_pos rfl
theorem am_up_eq {α : Type} (f : Nat → Nat → α) (a i : Nat) (v : α) : am_up f a i v a i = v := by rw [am_up_at, am_u1_eq]
theorem am_up_nei {α : Type} (f : Nat → Nat → α) (a : Nat) {i j : Nat} (v : α) (h : j ≠ i) : am_up f a i v a j = f a j := by rw [am_up_at, am_u1_ne _ _ h]
/-- a value: an int, a long, a thing's number, or a place among the things that were there before (texts) -/
abbrev am_A : Type := Int32 ⊕ Int64 ⊕ Nat ⊕ Nat
def am_rv (B r : Nat) : Value := if r = 0 then .null else .ref (B + r)
def am_ro (B r : Nat) : Option Nat := if r = 0 then none else some (B + r)
theorem am_rf (B r : Nat) : va_rf (am_ro B r) = am_rv B r := by
  unfold am_ro am_rv
  split <;> rfl
theorem am_rv_pos (B : Nat) {r : Nat} (h : 0 < r) : am_rv B r = .ref (B + r) := if_neg (by omega)
theorem am_rv_cat (B r : Nat) : (am_rv B r).category = 1 := by
  unfold am_rv
  split <;> rfl
theorem am_rv_or (B r : Nat) : am_rv B r = .null ∨ ∃ a, am_rv B r = .ref a := by
  unfold am_rv
  split
  · exact Or.inl rfl
  · exact Or.inr ⟨_, rfl⟩
theorem am_ro_inj (B r t : Nat) : am_ro B r = am_ro B t ↔ r = t := by
  unfold am_ro
  constructor
  · intro h
    split at h <;> split at h <;> simp_all
  · intro h
    rw [h]
def am_v (B : Nat) (ad : Nat → Option Nat) : am_A → Value
  | .inl x => .int x
  | .inr (.inl x) => .long x
  | .inr (.inr (.inl r)) => am_rv B r
  | .inr (.inr (.inr i)) => va_rf (ad i)
def am_cat : am_A → Nat
  | .inr (.inl _) => 2
  | _ => 1
theorem am_va_cat (o : Option Nat) : (va_rf o).category = 1 := by cases o <;> rfl
theorem am_v_cat (B : Nat) (ad : Nat → Option Nat) (v : am_A) : (am_v B ad v).category = am_cat v := by
  match v with
  | .inl x => rfl
  | .inr (.inl x) => rfl
  | .inr (.inr (.inl r)) => exact am_rv_cat B r
  | .inr (.inr (.inr i)) => exact am_va_cat (ad i)
def am_lv (B : Nat) (ad : Nat → Option Nat) (q : Nat × am_A) : Nat × Value := (q.1, am_v B ad q.2)
def am_ins : List (Nat × am_A) → Nat → am_A → List (Nat × am_A)
  | [], i, v => [(i, v)]
  | q :: r, i, v => if i < q.1 then (i, v) :: q :: r else q :: am_ins r i v
def am_set (lv : List (Nat × am_A)) (i : Nat) (v : am_A) : List (Nat × am_A) := am_ins (lv.filter (fun q => !(q.1 == i) && !(q.1 + 1 == i && am_cat q.2 == 2))) i v
def am_set2 (lv : List (Nat × am_A)) (i : Nat) (v : am_A) : List (Nat × am_A) := am_ins (lv.filter (fun q => !(q.1 == i) && (!(q.1 == i + 1) && !(q.1 + 1 == i && am_cat q.2 == 2)))) i v
theorem am_ins_mem {l : List (Nat × am_A)} {i : Nat} {v : am_A} {q : Nat × am_A} (h : q ∈ am_ins l i v) : q = (i, v) ∨ q ∈ l := by
  induction l with
  | nil => exact Or.inl (List.mem_singleton.mp h)
  | cons a r ih =>
    unfold am_ins at h
    split at h
    · rcases List.mem_cons.mp h with h | h
      · exact Or.inl h
      · exact Or.inr h
    · rcases List.mem_cons.mp h with h | h
      · exact Or.inr (by rw [h]; exact List.mem_cons_self)
      · rcases ih h with h | h
        · exact Or.inl h
        · exact Or.inr (List.mem_cons_of_mem _ h)
theorem am_set_has {B : Nat} {ad : Nat → Option Nat} {lv : List (Nat × am_A)} {i nL : Nat} {v : am_A} {ls : Array Slot} (h : lv_has ls nL ((i, am_v B ad v) :: (lv.map (am_lv B ad)).filter (fun q => !(q.1 == i) && !(q.1 + 1 == i && q.2.category == 2)))) : lv_has ls nL ((am_set lv i v).map (am_lv B ad)) := by
  refine ⟨h.1, h.2.1, fun q hq => ?_⟩
  obtain ⟨a, ha, rfl⟩ := List.mem_map.mp hq
  refine h.2.2 _ ?_
  rcases am_ins_mem ha with rfl | ha
  · exact List.mem_cons_self
  · refine List.mem_cons_of_mem _ ?_
    obtain ⟨h1, h2⟩ := List.mem_filter.mp ha
    refine List.mem_filter.mpr ⟨List.mem_map.mpr ⟨a, h1, rfl⟩, ?_⟩
    show (!((am_lv B ad a).1 == i) && !((am_lv B ad a).1 + 1 == i && (am_v B ad a.2).category == 2)) = true
    rw [am_v_cat B ad]
    exact h2
theorem am_set2_has {B : Nat} {ad : Nat → Option Nat} {lv : List (Nat × am_A)} {i nL : Nat} {v : am_A} {ls : Array Slot} (h : lv_has ls nL ((i, am_v B ad v) :: (lv.map (am_lv B ad)).filter (fun q => !(q.1 == i) && (!(q.1 == i + 1) && !(q.1 + 1 == i && q.2.category == 2))))) : lv_has ls nL ((am_set2 lv i v).map (am_lv B ad)) := by
  refine ⟨h.1, h.2.1, fun q hq => ?_⟩
  obtain ⟨a, ha, rfl⟩ := List.mem_map.mp hq
  refine h.2.2 _ ?_
  rcases am_ins_mem ha with rfl | ha
  · exact List.mem_cons_self
  · refine List.mem_cons_of_mem _ ?_
    obtain ⟨h1, h2⟩ := List.mem_filter.mp ha
    refine List.mem_filter.mpr ⟨List.mem_map.mpr ⟨a, h1, rfl⟩, ?_⟩
    show (!((am_lv B ad a).1 == i) && (!((am_lv B ad a).1 == i + 1) && !((am_lv B ad a).1 + 1 == i && (am_v B ad a.2).category == 2))) = true
    rw [am_v_cat B ad]
    exact h2
def am_pick (l : List (Nat × am_A)) (ks : List Nat) : List (Nat × am_A) := ks.filterMap (fun k => l[k]?)
theorem am_pick_has {B : Nat} {ad : Nat → Option Nat} {l l' : List (Nat × am_A)} {nL : Nat} {ls : Array Slot} (ks : List Nat) (hl : am_pick l ks = l') (h : lv_has ls nL (l.map (am_lv B ad))) : lv_has ls nL (l'.map (am_lv B ad)) := by
  refine ⟨h.1, h.2.1, fun q hq => ?_⟩
  obtain ⟨a, ha, rfl⟩ := List.mem_map.mp hq
  rw [← hl] at ha
  obtain ⟨k, -, hk⟩ := List.mem_filterMap.mp ha
  exact h.2.2 _ (List.mem_map.mpr ⟨a, List.mem_of_getElem? hk, rfl⟩)
theorem am_lat {B : Nat} {ad : Nat → Option Nat} {lv : List (Nat × am_A)} {nL : Nat} {ls : Array Slot} (h : lv_has ls nL (lv.map (am_lv B ad))) (k : Nat) {i : Nat} {v : am_A} (hk : lv[k]? = some (i, v)) : ls[i]? = some (.val (am_v B ad v)) := h.2.2 _ (List.mem_map.mpr ⟨(i, v), List.mem_of_getElem? hk, rfl⟩)
/-! the heap holds the memory: thing a at address B + a; what lies up to B is as it was in H0 -/
def am_ft (k j : Nat) : Nat := (am_ftl.getD k []).getD j 0
def am_Nk (k : Nat) : Nat := (am_ftl.getD k []).length
def am_V (B k : Nat) (M : am_Mem) (a : Nat) : Nat → Value := fun j => if am_ft k j = 0 then .int (am_I M a j) else if am_ft k j = 1 then .long (am_J M a j) else am_rv B (am_R M a j)
def am_pay (B k : Nat) (M : am_Mem) (a : Nat) : (Nat → Int32) ⊕ (Nat → Int64) ⊕ (Nat → UInt32) ⊕ (Nat → UInt64) ⊕ (Nat → Option Nat) :=
  if k = 15 then .inr (.inl (am_J M a)) else if 17 ≤ k then .inr (.inr (.inr (.inr (fun j => am_ro B (am_R M a j))))) else .inl (am_I M a)
def am_at (B : Nat) (D : va_G) (cy : Nat → ClassId) (M : am_Mem) (a : Nat) (H : Heap) : Prop :=
  if am_K M a < 13 then t_OB (B + a) (D.1 (am_K M a)) (am_Nk (am_K M a)) (D.2 (am_K M a)) H (am_V B (am_K M a) M a) else am_K M a = 98 ∨ H[B + a]? = some (vp_cell (cy (am_K M a)) (am_L M a, am_pay B (am_K M a) M a))
def am_H (B : Nat) (H0 : Heap) (D : va_G) (cy : Nat → ClassId) (M : am_Mem) (H : Heap) : Prop :=
  H.size = B + 1 + am_n M ∧ (∀ q : Nat, q ≤ B → H[q]? = H0[q]?) ∧ (∀ a : Nat, 0 < a → a ≤ am_n M → am_at B D cy M a H) ∧ ∀ a : Nat, (a = 0 ∨ am_n M < a) → am_K M a = 99
theorem am_H.lives {B : Nat} {H0 : Heap} {D : va_G} {cy : Nat → ClassId} {M : am_Mem} {H : Heap} (h : am_H B H0 D cy M H) {r : Nat} (hk : am_K M r ≠ 99) : 0 < r ∧ r ≤ am_n M := by
  rcases Nat.eq_zero_or_pos r with h0 | h0
  · exact absurd (h.2.2.2 r (Or.inl h0)) hk
  · rcases Nat.lt_or_ge (am_n M) r with h1 | h1
    · exact absurd (h.2.2.2 r (Or.inr h1)) hk
    · exact ⟨h0, h1⟩
theorem am_at_obj {B : Nat} {D : va_G} {cy : Nat → ClassId} {M : am_Mem} {H : Heap} {r kd : Nat} (hk : am_K M r = kd) (h13 : kd < 13) : am_at B D cy M r H = t_OB (B + r) (D.1 kd) (am_Nk kd) (D.2 kd) H (am_V B kd M r) := by
  unfold am_at
  rw [hk, if_pos h13]
theorem am_at_arr {B : Nat} {D : va_G} {cy : Nat → ClassId} {M : am_Mem} {H : Heap} {r kd : Nat} (hk : am_K M r = kd) (h13 : ¬ kd < 13 ∧ ¬ kd = 98) : am_at B D cy M r H = (H[B + r]? = some (vp_cell (cy kd) (am_L M r, am_pay B kd M r))) := by
  unfold am_at
  rw [hk, if_neg h13.1]
  exact propext ⟨fun h => h.elim (fun q => absurd q h13.2) id, Or.inr⟩
theorem am_at_same {B : Nat} {D : va_G} {cy : Nat → ClassId} {M M' : am_Mem} {H H' : Heap} {b : Nat} (hK : am_K M' b = am_K M b) (hL : am_L M' b = am_L M b) (hI : am_I M' b = am_I M b) (hJ : am_J M' b = am_J M b) (hR : am_R M' b = am_R M b) (hH : H'[B + b]? = H[B + b]?) (h : am_at B D cy M b H) : am_at B D cy M' b H' := by
  unfold am_at at h ⊢
  rw [hK]
  split at h
  · rename_i h13
    rw [if_pos h13]
    refine (t_OB.kept h hH).to (fun j _ => ?_)
    unfold am_V
    rw [hI, hJ, hR]
  · rename_i h13
    rw [if_neg h13]
    rcases h with h | h
    · exact Or.inl h
    · refine Or.inr ?_
      rw [hH, h, hL]
      unfold am_pay
      rw [hI, hJ, hR]
theorem am_H.put {B : Nat} {H0 : Heap} {D : va_G} {cy : Nat → ClassId} {M M' : am_Mem} {H H' : Heap} {r : Nat} (h : am_H B H0 D cy M H) (hn : am_n M' = am_n M) (hK : am_K M' = am_K M) (hL : am_L M' = am_L M) (hI : ∀ b, b ≠ r → am_I M' b = am_I M b) (hJ : ∀ b, b ≠ r → am_J M' b = am_J M b) (hR : ∀ b, b ≠ r → am_R M' b = am_R M b)
    (hr : 0 < r) (z : H'.size = H.size) (o : ∀ q : Nat, q ≠ B + r → H'[q]? = H[q]?) (ha : am_at B D cy M' r H') : am_H B H0 D cy M' H' := by
  obtain ⟨h1, h2, h3, h4⟩ := h
  refine ⟨by rw [z, h1, hn], fun q hq => by rw [o q (by omega)]; exact h2 q hq, fun a h5 h6 => ?_, fun a h5 => by rw [hK]; exact h4 a (by rw [← hn]; exact h5)⟩
  by_cases hb : a = r
  · rw [hb]; exact ha
  · exact am_at_same (by rw [hK]) (by rw [hL]) (hI a hb) (hJ a hb) (hR a hb) (o _ (by omega)) (h3 a h5 (by rw [← hn]; exact h6))
theorem am_H.push {B : Nat} {H0 : Heap} {D : va_G} {cy : Nat → ClassId} {M : am_Mem} {k len : Nat} {H H' : Heap} (h : am_H B H0 D cy M H) (z : H'.size = H.size + 1) (o : ∀ q : Nat, q < H.size → H'[q]? = H[q]?) (ha : am_at B D cy (am_new M k len) (am_n M + 1) H') : am_H B H0 D cy (am_new M k len) H' := by
  obtain ⟨h1, h2, h3, h4⟩ := h
  refine ⟨by rw [z, h1]; rfl, fun q hq => by rw [o q (by omega)]; exact h2 q hq, fun a h5 h6 => ?_, fun a h5 => ?_⟩
  · by_cases hb : a = am_n M + 1
    · rw [hb]; exact ha
    · have h6' : a ≤ am_n M + 1 := h6
      exact am_at_same (am_u1_ne _ _ hb) (am_u1_ne _ _ hb) (am_u1_ne _ _ hb) (am_u1_ne _ _ hb) (am_u1_ne _ _ hb) (o _ (by omega)) (h3 a h5 (by omega))
  · have h5' : a = 0 ∨ am_n M + 1 < a := h5
    show am_u1 (am_K M) (am_n M + 1) k a = 99
    rw [am_u1_ne _ _ (by omega)]
    exact h4 a (by omega)
def am_tys (cy : Nat → ClassId) : List (ClassId × FieldType) := [(cy 13, .byte), (cy 14, .int), (cy 15, .long), (cy 16, .boolean), (cy 17, .object RX6), (cy 18, .object RX10), (cy 19, .array .int), (cy 20, .array .long)]
def am_w (w : Cond) : Prop := w ∈ lw_tbl ∧ goodWord w = true
/-- the texts that the code names: by whom, at which place of its pool, the text; their bytes -/
def am_so (i : Nat) : String := if i < 5 then RX11 else RX12
def am_si (i : Nat) : Nat := [149, 164, 229, 231, 243, 171, 177].getD i 0
def am_sx (i : Nat) : String := ["no such square", "nothing such of a square", "no such rectangle", "no such line", "nothing such of a line", "drawn", "net"].getD i ""
def am_sby : List (List Int32) := [[110, 111, 32, 115, 117, 99, 104, 32, 115, 113, 117, 97, 114, 101], [110, 111, 116, 104, 105, 110, 103, 32, 115, 117, 99, 104, 32, 111, 102, 32, 97, 32, 115, 113, 117, 97, 114, 101], [110, 111, 32, 115, 117, 99, 104, 32, 114, 101, 99, 116, 97, 110, 103, 108, 101], [110, 111, 32, 115, 117, 99, 104, 32, 108, 105, 110, 101], [110, 111, 116, 104, 105, 110, 103, 32, 115, 117, 99, 104, 32, 111, 102, 32, 97, 32, 108, 105, 110, 101], [100, 114, 97, 119, 110], [110, 101, 116]]
def am_sle : List Nat := [14, 24, 17, 12, 22, 5, 3]
/-- what was there before and is used: the texts, the statics -/
def am_X (B : Nat) (ad : Nat → Option Nat) (H0 : Heap) (U : State) : Prop :=
  (∃ adK adV : Nat → Nat, (∀ i, i < 7 → ad i = some (adK i) ∧ ad (8 + i) = some (adV i) ∧ vk_R (am_so i) (am_si i) (am_sx i) (adK i) U) ∧ vk_S 7 am_sle am_sby adK adV (fun q => B < q) U H0) ∧
  va_Z "java/lang/String" "COMPACT_STRINGS" "Z" (.int 1) (fun q => B < q) U H0 ∧ va_Z "jdk/internal/util/Preconditions" "SIOOBE_FORMATTER" "Ljava/util/function/BiFunction;" (va_rf (ad 15)) (fun q => B < q) U H0 ∧
  vx_Zq Bundle.tN "UNASSIGNED_STACK" Bundle.steD (fun q => B < q) U H0 ∧ vx_Zq Bundle.tN "SUPPRESSED_SENTINEL" Bundle.listD (fun q => B < q) U H0 ∧
  va_Nw (.castable "java/util/NoSuchElementException" "java/util/NoSuchElementException") U ∧ ∀ x : MethodName, Cond.declares x ∈ lw_tbl → va_Nw (.declares x) U
theorem am_X.warm {B : Nat} {ad : Nat → Option Nat} {H0 : Heap} {s U : State} (hW : s.WarmedH U.vm) (h : am_X B ad H0 s) : am_X B ad H0 U := by
  obtain ⟨⟨adK, adV, h1, h2⟩, h3, h4, h5, h6, h7, h8⟩ := h
  exact ⟨⟨adK, adV, fun i hi => ⟨(h1 i hi).1, (h1 i hi).2.1, (h1 i hi).2.2.warm hW⟩, h2.moved hW.alike⟩, va_Z.moved hW.alike h3, va_Z.moved hW.alike h4, h5.moved hW.alike, h6.moved hW.alike, h7.warmC hW, fun x hx => (h8 x hx).warmD hW⟩
/-- the tables' words, as every method has them -/
def am_T (B : Nat) (ad : Nat → Option Nat) (H0 : Heap) (U : State) : Prop := (∀ w : Cond, am_w w → ∀ a : Array Value, w.before a U = true) ∧ (∀ (a : String) (i : Nat) (x : MethodName) (h : String), Cond.methodLinkNest a i x h ∈ lw_tbl → va_Nw (.methodLinkNest a i x h) U) ∧ (∀ C : String, Cond.arrayOver (.object C) ∈ lw_tbl → va_AO C U) ∧ (∀ t : FieldType, Cond.arrayOver (.array t) ∈ lw_tbl → ∀ a : Array Value, (Cond.arrayOver (.array t)).before a U = true) ∧ am_X B ad H0 U
theorem am_T.warm {B : Nat} {ad : Nat → Option Nat} {H0 : Heap} {s U : State} (hW : s.WarmedH U.vm) (h : am_T B ad H0 s) : am_T B ad H0 U :=
  ⟨fun w hw a => word_at (args := #[]) hW (good_of_word hw.2) (h.1 w hw #[]), fun a i x hh hm => (h.2.1 a i x hh hm).warmM hW, fun C hm => (h.2.2.1 C hm).moved hW.alike, fun t hm a => over_moved (a := #[]) hW.alike (h.2.2.2.1 t hm #[]), h.2.2.2.2.warm hW⟩
def am_Pre (B : Nat) (ad : Nat → Option Nat) (H0 : Heap) (D : va_G) (cy : Nat → ClassId) (M : am_Mem) (U : State) : Prop := am_H B H0 D cy M U.heap ∧ va_K D vwCl (am_tys cy) U ∧ am_T B ad H0 U
def am_Qc (B : Nat) (ad : Nat → Option Nat) (H0 : Heap) (D : va_G) (cy : Nat → ClassId) (ov : Option am_A) (M' : am_Mem) : Array Value → State → Outcome → State → Prop := fun _ _ o t => o = .returned (ov.map (am_v B ad)) ∧ am_H B H0 D cy M' t.heap
/-- THE CONTRACT: from the memory M, with these arguments, the method returns ov and leaves M' -/
def am_Met (l : Launch) (y : MethodName) (cc : ByteArray) (maxL : Nat) (ret : Option FieldType) (rm : Room) (mc ms : Nat) (As : List am_A) (M : am_Mem) (ov : Option am_A) (M' : am_Mem) : Prop :=
  ∀ (B : Nat) (ad : Nat → Option Nat) (H0 : Heap) (D : va_G) (cy : Nat → ClassId), Met l y [.code y cc maxL ret] rm (va_Pc (As.map (am_v B ad)) (am_Pre B ad H0 D cy M)) (am_Qc B ad H0 D cy ov M') mc ms (fun q => B < q)
/-- the machine in a method's body, over the memory -/
def am_W (p : Program) (l : Launch) (e : Env) (R : Room) (s : State) (m : MethodId) (args : Array Value) (below : List Frame) (meth : Method) (c : Code) (B : Nat) (ad : Nat → Option Nat) (H0 : Heap) (D : va_G) (cy : Nat → ClassId) (nL : Nat) (Q : State → Prop) (pc : Nat) (lv : List (Nat × am_A)) (st : List am_A) (M : am_Mem) (k n : Nat) : Prop :=
  ∀ (H : Heap) (locs : List Loc) (ls : Array Slot), am_H B H0 D cy M H → (∀ q ∈ locs, B < q.base) → lv_has ls nL (lv.map (am_lv B ad)) → W p l e R s m args below meth c H locs k n Q (F0 m pc ls (st.map (am_v B ad)))
theorem am_mono {p : Program} {l : Launch} {e : Env} {R : Room} {s : State} {m : MethodId} {args : Array Value} {below : List Frame} {meth : Method} {c : Code} {H : Heap} {locs : List Loc} {cells slots : Nat} {Q1 Q2 : State → Prop} {g : JFrame} (h : ∀ t : State, Q1 t → Q2 t) (k : W p l e R s m args below meth c H locs cells slots Q1 g) : W p l e R s m args below meth c H locs cells slots Q2 g := by
  intro T hT X
  obtain ⟨t, a, b⟩ := k T hT X
  exact ⟨t, a, h t b⟩
abbrev am_G : Type := Nat → List (Nat × am_A) → List am_A → am_Mem → Nat → Nat → Prop
def am_Ctx (l : Launch) (R : Room) (y : MethodName) (cc : ByteArray) (nL : Nat) (ret : Option FieldType) (ov : Option am_A) (M' : am_Mem) (mc ms : Nat) (G : am_G) : Prop :=
  ∃ (p : Program) (e : Env) (s : State) (m : MethodId) (args : Array Value) (below : List Frame) (meth : Method) (c : Code) (B : Nat) (ad : Nat → Option Nat) (H0 : Heap) (D : va_G) (cy : Nat → ClassId) (Q : State → Prop),
    G = am_W p l e R s m args below meth c B ad H0 D cy nL Q ∧ (∀ t : State, MQ below (am_Qc B ad H0 D cy ov M') args s mc ms (fun q => B < q) t → Q t) ∧ p.tables.exec = Jvm.exec ∧ c.code = cc ∧ c.maxLocals = nL ∧ s.vm.findClass y.cls = some m.cls ∧ am_T B ad H0 s ∧ va_K D vwCl (am_tys cy) s ∧ meth.sig.returnType = ret ∧ meth.locks = false ∧ meth.name = y.name
def am_largs : Nat → List am_A → List (Nat × am_A)
  | _, [] => []
  | i, v :: vs => (i, v) :: am_largs (if am_cat v = 2 then i + 2 else i + 1) vs
theorem am_largs_eq (B : Nat) (ad : Nat → Option Nat) (vs : List am_A) : ∀ i : Nat, lv_args i (vs.map (am_v B ad)) = (am_largs i vs).map (am_lv B ad) := by
  induction vs with
  | nil => intro i; rfl
  | cons v vs ih =>
    intro i
    show (i, am_v B ad v) :: lv_args (if (am_v B ad v).category = 2 then i + 2 else i + 1) (vs.map (am_v B ad)) = (i, am_v B ad v) :: (am_largs (if am_cat v = 2 then i + 2 else i + 1) vs).map (am_lv B ad)
    rw [am_v_cat B ad, ih]
theorem am_lsl (B : Nat) (ad : Nat → Option Nat) (vs : List am_A) : (lg_sl (vs.map (am_v B ad))).length = (vs.map am_cat).sum := by
  induction vs with
  | nil => rfl
  | cons v vs ih =>
    show (lg_sl (am_v B ad v :: vs.map (am_v B ad))).length = am_cat v + (vs.map am_cat).sum
    unfold lg_sl at ih ⊢
    rw [List.flatMap_cons, List.length_append, ih, am_v_cat B ad]
    match v with
    | .inl x => rfl
    | .inr (.inl x) => rfl
    | .inr (.inr (.inl r)) => rfl
    | .inr (.inr (.inr i)) => rfl
theorem am_mk {l : Launch} {y : MethodName} {cc : ByteArray} {maxL : Nat} {ret : Option FieldType} {rm : Room} {mc ms : Nat} {As : List am_A} {M : am_Mem} {ov : Option am_A} {M' : am_Mem} (hy : plainName y.cls = true) (hlen : (As.map am_cat).sum ≤ maxL)
    (body : ∀ G : am_G, am_Ctx l rm y cc maxL ret ov M' mc ms G → G 0 (am_largs 0 As) [] M 0 0) : am_Met l y cc maxL ret rm mc ms As M ov M' := by
  intro B ad H0 D cy
  refine Met.ofW (cc := cc) (maxL := maxL) (ret := ret) hy rfl ?_
  intro p e s m args below meth c s₁ Bd hml hP
  obtain ⟨rfl, hH, hK, hT⟩ := hP
  have hown : s.vm.findClass y.cls = some m.cls := findClass_of_methodNamed Bd.named
  have hbody := body _ ⟨p, e, s, m, (As.map (am_v B ad)).toArray, below, meth, c, B, ad, H0, D, cy, _, rfl, fun _ h => h, Bd.exec, Bd.bytes, hml, hown, hT, hK, Bd.returns, Bd.notSynchronized, (name_of_methodNamed Bd.named Bd.method).1⟩
  have hl := lv_entry (As.map (am_v B ad)) (n := maxL) (by rw [am_lsl]; exact hlen)
  rw [lg_entry_eq]
  rw [am_largs_eq] at hl
  exact hbody s.heap [] _ hH (fun q h => by cases h) hl
