theorem rK_wI (M : am_Mem) (a i : Nat) (v : Int32) : am_K (am_wI M a i v) = am_K M := rfl
theorem rL_wI (M : am_Mem) (a i : Nat) (v : Int32) : am_L (am_wI M a i v) = am_L M := rfl
theorem rR_wI (M : am_Mem) (a i : Nat) (v : Int32) : am_R (am_wI M a i v) = am_R M := rfl
theorem rJ_wI (M : am_Mem) (a i : Nat) (v : Int32) : am_J (am_wI M a i v) = am_J M := rfl
theorem rn_wI (M : am_Mem) (a i : Nat) (v : Int32) : am_n (am_wI M a i v) = am_n M := rfl
theorem rK_wJ (M : am_Mem) (a i : Nat) (v : Int64) : am_K (am_wJ M a i v) = am_K M := rfl
theorem rL_wJ (M : am_Mem) (a i : Nat) (v : Int64) : am_L (am_wJ M a i v) = am_L M := rfl
theorem rR_wJ (M : am_Mem) (a i : Nat) (v : Int64) : am_R (am_wJ M a i v) = am_R M := rfl
theorem rI_wJ (M : am_Mem) (a i : Nat) (v : Int64) : am_I (am_wJ M a i v) = am_I M := rfl
theorem rn_wJ (M : am_Mem) (a i : Nat) (v : Int64) : am_n (am_wJ M a i v) = am_n M := rfl
theorem rK_wR (M : am_Mem) (a i : Nat) (v : Nat) : am_K (am_wR M a i v) = am_K M := rfl
theorem rL_wR (M : am_Mem) (a i : Nat) (v : Nat) : am_L (am_wR M a i v) = am_L M := rfl
theorem rI_wR (M : am_Mem) (a i : Nat) (v : Nat) : am_I (am_wR M a i v) = am_I M := rfl
theorem rJ_wR (M : am_Mem) (a i : Nat) (v : Nat) : am_J (am_wR M a i v) = am_J M := rfl
theorem rn_wR (M : am_Mem) (a i : Nat) (v : Nat) : am_n (am_wR M a i v) = am_n M := rfl
theorem rI_eq (M : am_Mem) (a i : Nat) (v : Int32) : am_I (am_wI M a i v) a i = v := am_up_eq _ _ _ _
theorem rI_ix (M : am_Mem) (a : Nat) {i j : Nat} (v : Int32) (h : ¬ j = i) : am_I (am_wI M a i v) a j = am_I M a j := am_up_nei _ _ _ h
theorem rI_ne (M : am_Mem) {a b : Nat} (i : Nat) (v : Int32) (h : ¬ b = a) : am_I (am_wI M a i v) b = am_I M b := am_up_ne _ _ _ h
theorem rI_if (M : am_Mem) (a i j : Nat) (v : Int32) : am_I (am_wI M a i v) a j = if j = i then v else am_I M a j := by
  show am_up (am_I M) a i v a j = _
  rw [am_up_at]
  rfl
theorem rJ_eq (M : am_Mem) (a i : Nat) (v : Int64) : am_J (am_wJ M a i v) a i = v := am_up_eq _ _ _ _
theorem rJ_ix (M : am_Mem) (a : Nat) {i j : Nat} (v : Int64) (h : ¬ j = i) : am_J (am_wJ M a i v) a j = am_J M a j := am_up_nei _ _ _ h
theorem rJ_ne (M : am_Mem) {a b : Nat} (i : Nat) (v : Int64) (h : ¬ b = a) : am_J (am_wJ M a i v) b = am_J M b := am_up_ne _ _ _ h
theorem rJ_if (M : am_Mem) (a i j : Nat) (v : Int64) : am_J (am_wJ M a i v) a j = if j = i then v else am_J M a j := by
  show am_up (am_J M) a i v a j = _
  rw [am_up_at]
  rfl
theorem rR_eq (M : am_Mem) (a i : Nat) (v : Nat) : am_R (am_wR M a i v) a i = v := am_up_eq _ _ _ _
theorem rR_ix (M : am_Mem) (a : Nat) {i j : Nat} (v : Nat) (h : ¬ j = i) : am_R (am_wR M a i v) a j = am_R M a j := am_up_nei _ _ _ h
theorem rR_ne (M : am_Mem) {a b : Nat} (i : Nat) (v : Nat) (h : ¬ b = a) : am_R (am_wR M a i v) b = am_R M b := am_up_ne _ _ _ h
theorem rR_if (M : am_Mem) (a i j : Nat) (v : Nat) : am_R (am_wR M a i v) a j = if j = i then v else am_R M a j := by
  show am_up (am_R M) a i v a j = _
  rw [am_up_at]
  rfl
theorem rn_new (M : am_Mem) (k len : Nat) : am_n (am_new M k len) = am_n M + 1 := rfl
theorem rK_new_eq (M : am_Mem) (k len : Nat) : am_K (am_new M k len) (am_n M + 1) = k := am_u1_eq _ _ _
theorem rL_new_eq (M : am_Mem) (k len : Nat) : am_L (am_new M k len) (am_n M + 1) = len := am_u1_eq _ _ _
theorem rI_new_eq (M : am_Mem) (k len : Nat) : am_I (am_new M k len) (am_n M + 1) = fun _ => 0 := am_u1_eq _ _ _
theorem rJ_new_eq (M : am_Mem) (k len : Nat) : am_J (am_new M k len) (am_n M + 1) = fun _ => 0 := am_u1_eq _ _ _
theorem rR_new_eq (M : am_Mem) (k len : Nat) : am_R (am_new M k len) (am_n M + 1) = fun _ => 0 := am_u1_eq _ _ _
theorem rK_new (M : am_Mem) (k len : Nat) {a : Nat} (h : ¬ a = am_n M + 1) : am_K (am_new M k len) a = am_K M a := am_u1_ne _ _ h
theorem rL_new (M : am_Mem) (k len : Nat) {a : Nat} (h : ¬ a = am_n M + 1) : am_L (am_new M k len) a = am_L M a := am_u1_ne _ _ h
theorem rI_new (M : am_Mem) (k len : Nat) {a : Nat} (h : ¬ a = am_n M + 1) : am_I (am_new M k len) a = am_I M a := am_u1_ne _ _ h
theorem rJ_new (M : am_Mem) (k len : Nat) {a : Nat} (h : ¬ a = am_n M + 1) : am_J (am_new M k len) a = am_J M a := am_u1_ne _ _ h
theorem rR_new (M : am_Mem) (k len : Nat) {a : Nat} (h : ¬ a = am_n M + 1) : am_R (am_new M k len) a = am_R M a := am_u1_ne _ _ h
/-- nothing changes but ints and longs of the things of W; new things may come -/
def am_Fr (W : List Nat) (M M' : am_Mem) : Prop := am_n M ≤ am_n M' ∧ ∀ a, a ≤ am_n M → am_K M' a = am_K M a ∧ am_L M' a = am_L M a ∧ am_R M' a = am_R M a ∧ (a ∉ W → am_I M' a = am_I M a ∧ am_J M' a = am_J M a)
theorem fr_refl (W : List Nat) (M : am_Mem) : am_Fr W M M := ⟨Nat.le_refl _, fun _ _ => ⟨rfl, rfl, rfl, fun _ => ⟨rfl, rfl⟩⟩⟩
theorem fr_trans {W : List Nat} {M M1 M2 : am_Mem} (h : am_Fr W M M1) (g : am_Fr W M1 M2) : am_Fr W M M2 := by
  refine ⟨Nat.le_trans h.1 g.1, fun a ha => ?_⟩
  obtain ⟨h1, h2, h3, h4⟩ := h.2 a ha
  obtain ⟨g1, g2, g3, g4⟩ := g.2 a (Nat.le_trans ha h.1)
  refine ⟨g1.trans h1, g2.trans h2, g3.trans h3, fun hw => ⟨(g4 hw).1.trans (h4 hw).1, (g4 hw).2.trans (h4 hw).2⟩⟩
theorem fr_mono {W W' : List Nat} {M M' : am_Mem} (h : am_Fr W M M') (hs : ∀ a ∈ W, a ∈ W') : am_Fr W' M M' :=
  ⟨h.1, fun a ha => ⟨(h.2 a ha).1, (h.2 a ha).2.1, (h.2 a ha).2.2.1, fun hw => (h.2 a ha).2.2.2 (fun h' => hw (hs a h'))⟩⟩
theorem fr_wI {W : List Nat} (M : am_Mem) {a : Nat} (i : Nat) (v : Int32) (h : a ∈ W) : am_Fr W M (am_wI M a i v) :=
  ⟨Nat.le_refl _, fun b _ => ⟨rfl, rfl, rfl, fun hw => ⟨rI_ne M i v (fun e => hw (e ▸ h)), rfl⟩⟩⟩
theorem fr_wJ {W : List Nat} (M : am_Mem) {a : Nat} (i : Nat) (v : Int64) (h : a ∈ W) : am_Fr W M (am_wJ M a i v) :=
  ⟨Nat.le_refl _, fun b _ => ⟨rfl, rfl, rfl, fun hw => ⟨rfl, rJ_ne M i v (fun e => hw (e ▸ h))⟩⟩⟩
theorem fr_new (W : List Nat) (M : am_Mem) (k len : Nat) : am_Fr W M (am_new M k len) :=
  ⟨Nat.le_succ _, fun b hb => ⟨rK_new M k len (by omega), rL_new M k len (by omega), rR_new M k len (by omega), fun _ => ⟨rI_new M k len (by omega), rJ_new M k len (by omega)⟩⟩⟩
theorem fr_K {W : List Nat} {M M' : am_Mem} (h : am_Fr W M M') {a : Nat} (ha : a ≤ am_n M) : am_K M' a = am_K M a := (h.2 a ha).1
theorem fr_L {W : List Nat} {M M' : am_Mem} (h : am_Fr W M M') {a : Nat} (ha : a ≤ am_n M) : am_L M' a = am_L M a := (h.2 a ha).2.1
theorem fr_R {W : List Nat} {M M' : am_Mem} (h : am_Fr W M M') {a : Nat} (ha : a ≤ am_n M) : am_R M' a = am_R M a := (h.2 a ha).2.2.1
theorem fr_I {W : List Nat} {M M' : am_Mem} (h : am_Fr W M M') {a : Nat} (ha : a ≤ am_n M) (hw : a ∉ W) : am_I M' a = am_I M a := ((h.2 a ha).2.2.2 hw).1
theorem fr_J {W : List Nat} {M M' : am_Mem} (h : am_Fr W M M') {a : Nat} (ha : a ≤ am_n M) (hw : a ∉ W) : am_J M' a = am_J M a := ((h.2 a ha).2.2.2 hw).2
theorem nk_ck {α : Type} {x : Option α} : am_ck true x = x := rfl
theorem nk_bd {α β : Type} {v : α} {M : am_Mem} {f : α → am_Mem → Option β} : am_bd (some (v, M)) f = f v M := rfl
theorem nk_k {M : am_Mem} {r kd : Nat} : am_k M r kd = decide (am_K M r = kd) := by
  unfold am_k
  by_cases h : am_K M r = kd
  · rw [decide_eq_true h, h]; exact beq_self_eq_true kd
  · rw [decide_eq_false h]; exact beq_false_of_ne h
theorem nk_in {n L : Nat} (h : n < L) (hL : L < 2 ^ 31) : am_in (nI n) L = true := by
  have e := nI_clamp (n := n) (by omega)
  unfold am_in
  rw [Bool.and_eq_true, decide_eq_true_eq, decide_eq_true_eq, e]
  exact ⟨nI_pos (by omega), by omega⟩
theorem nk_cnt {n L : Nat} (h : n ≤ L) (hL : L < 2 ^ 31) : am_cnt (nI n) L = true := by
  have e := nI_clamp (n := n) (by omega)
  unfold am_cnt
  rw [Bool.and_eq_true, decide_eq_true_eq, decide_eq_true_eq, e]
  exact ⟨nI_pos (by omega), by omega⟩
theorem nk_01 : ((0 : Int32) == 0 || (0 : Int32) == 1) = true := by decide
theorem nk_11 : ((1 : Int32) == 0 || (1 : Int32) == 1) = true := by decide
theorem nk_lit (n : Nat) : (OfNat.ofNat n : Int32) = nI n := rfl
/-- the natural numbers' way of an int that isn't below zero -/
theorem nk_ex {x : Int32} (h : 0 ≤ x.toInt) : x = nI x.toInt.toNat := by
  have h2 : x.toInt < 2 ^ 31 := by have := Int32.toInt_lt x; omega
  apply Int32.toInt_inj.mp
  rw [nI_toInt (by omega)]
  omega
theorem nk_toInt_lt0 (x : Int32) : x < 0 ↔ x.toInt < 0 := by
  rw [Int32.lt_iff_toInt_lt]
  rfl
theorem nk_sub (a b : Nat) (h : b ≤ a) : nI a - nI b = nI (a - b) := pk_sub h
