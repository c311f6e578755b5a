def am_sI (M : am_Mem) (a : Nat) (f : Nat → Int32) : am_Mem := (am_n M, am_K M, am_L M, am_u1 (am_I M) a f, am_J M, am_R M)
def am_sR (M : am_Mem) (a : Nat) (f : Nat → Nat) : am_Mem := (am_n M, am_K M, am_L M, am_I M, am_J M, am_u1 (am_R M) a f)
theorem rI_sI (M : am_Mem) (a : Nat) (f : Nat → Int32) : am_I (am_sI M a f) a = f := am_u1_eq _ _ _
theorem rI_sIn (M : am_Mem) {a b : Nat} (f : Nat → Int32) (h : ¬ b = a) : am_I (am_sI M a f) b = am_I M b := am_u1_ne _ _ h
theorem rR_sI (M : am_Mem) (a : Nat) (f : Nat → Int32) : am_R (am_sI M a f) = am_R M := rfl
theorem rJ_sI (M : am_Mem) (a : Nat) (f : Nat → Int32) : am_J (am_sI M a f) = am_J M := rfl
theorem rK_sI (M : am_Mem) (a : Nat) (f : Nat → Int32) : am_K (am_sI M a f) = am_K M := rfl
theorem rL_sI (M : am_Mem) (a : Nat) (f : Nat → Int32) : am_L (am_sI M a f) = am_L M := rfl
theorem rn_sI (M : am_Mem) (a : Nat) (f : Nat → Int32) : am_n (am_sI M a f) = am_n M := rfl
theorem rR_sR (M : am_Mem) (a : Nat) (f : Nat → Nat) : am_R (am_sR M a f) a = f := am_u1_eq _ _ _
theorem rR_sRn (M : am_Mem) {a b : Nat} (f : Nat → Nat) (h : ¬ b = a) : am_R (am_sR M a f) b = am_R M b := am_u1_ne _ _ h
theorem rI_sR (M : am_Mem) (a : Nat) (f : Nat → Nat) : am_I (am_sR M a f) = am_I M := rfl
theorem rJ_sR (M : am_Mem) (a : Nat) (f : Nat → Nat) : am_J (am_sR M a f) = am_J M := rfl
theorem rK_sR (M : am_Mem) (a : Nat) (f : Nat → Nat) : am_K (am_sR M a f) = am_K M := rfl
theorem rL_sR (M : am_Mem) (a : Nat) (f : Nat → Nat) : am_L (am_sR M a f) = am_L M := rfl
theorem rn_sR (M : am_Mem) (a : Nat) (f : Nat → Nat) : am_n (am_sR M a f) = am_n M := rfl
theorem u1_u1 {α : Type} (f : Nat → α) (a : Nat) (v w : α) : am_u1 (am_u1 f a v) a w = am_u1 f a w := by
  funext b
  unfold am_u1
  split <;> rfl
theorem u1_id {α : Type} (f : Nat → α) (a : Nat) : am_u1 f a (f a) = f := by
  funext b
  unfold am_u1
  split
  · next h => rw [h]
  · rfl
theorem sI_id (M : am_Mem) (a : Nat) : am_sI M a (am_I M a) = M := by
  unfold am_sI
  rw [u1_id]
  rfl
theorem sR_id (M : am_Mem) (a : Nat) : am_sR M a (am_R M a) = M := by
  unfold am_sR
  rw [u1_id]
  rfl
theorem wI_sI (M : am_Mem) (a i : Nat) (f : Nat → Int32) (v : Int32) : am_wI (am_sI M a f) a i v = am_sI M a (am_u1 f i v) := by
  unfold am_wI am_sI am_up
  show (_, _, _, am_u1 (am_u1 (am_I M) a f) a (am_u1 (am_u1 (am_I M) a f a) i v), _, _) = _
  rw [u1_u1, am_u1_eq]
  rfl
theorem wR_sR (M : am_Mem) (a i : Nat) (f : Nat → Nat) (v : Nat) : am_wR (am_sR M a f) a i v = am_sR M a (am_u1 f i v) := by
  unfold am_wR am_sR am_up
  show (_, _, _, _, _, am_u1 (am_u1 (am_R M) a f) a (am_u1 (am_u1 (am_R M) a f a) i v)) = _
  rw [u1_u1, am_u1_eq]
  rfl
theorem dyn_sI {M : am_Mem} {a : Nat} (f : Nat → Int32) (h : a ≤ 141) : Dyn M (am_sI M a f) :=
  ⟨Nat.le_refl _, fun b h1 _ => ⟨rfl, rfl, rfl, rI_sIn M f (by omega), rfl⟩⟩
theorem dyn_sR {M : am_Mem} {a : Nat} (f : Nat → Nat) (h : a ≤ 141) : Dyn M (am_sR M a f) :=
  ⟨Nat.le_refl _, fun b h1 _ => ⟨rfl, rfl, rR_sRn M f (by omega), rfl, rfl⟩⟩
theorem fr_sI {W : List Nat} (M : am_Mem) {a : Nat} (f : Nat → Int32) (h : a ∈ W) : am_Fr W M (am_sI M a f) :=
  ⟨Nat.le_refl _, fun b _ => ⟨rfl, rfl, rfl, fun hw => ⟨rI_sIn M f (fun e => hw (e ▸ h)), rfl⟩⟩⟩
theorem shp_sI {M : am_Mem} (h : Shp M) (a : Nat) (f : Nat → Int32) : Shp (am_sI M a f) := h
theorem shp_sR {M : am_Mem} (h : Shp M) (a : Nat) (f : Nat → Nat) (ha : a = 105 ∨ a = 107 ∨ a = 109) : Shp (am_sR M a f) :=
  ⟨h.1, h.2.1, fun q hq => by
    have := sh_big q hq
    rw [rR_sRn M f (by omega)]
    exact h.2.2 q hq⟩
/-- the row of places, copied as far as j -/
def cpR (M : am_Mem) (d s j : Nat) : am_Mem := am_sR M d (fun i => if i < j then am_R M s i else am_R M d i)
theorem cp_loop {N : Nat} {M : am_Mem} {ra rb d s m : Nat} (k1 : am_K M ra = 9) (k2 : am_K M rb = 9) (k3 : am_K M d = 18) (k4 : am_K M s = 18) (l3 : am_L M d = 12) (l4 : am_L M s = 12) (r1 : am_R M ra 0 = d) (r2 : am_R M rb 0 = s) (n1 : ¬ ra = d) (n2 : ¬ rb = d) (n3 : ¬ s = d) (hm : m ≤ 12) (hi : am_I M ra 1 = nI m) (hk : ∀ i, i < m → am_K M (am_R M s i) = 10) :
    ∀ k j fuel, j + k = m → k < fuel → fn9_copyFrom_b15 N fuel ra rb (nI j) (cpR M d s j) = some ((), cpR M d s m) := by
  intro k
  induction k with
  | zero =>
    intro j fuel hj hf
    obtain ⟨f, rfl⟩ : ∃ f, fuel = f + 1 := ⟨fuel - 1, by omega⟩
    have : j = m := by omega
    subst this
    show fn9_copyFrom_b15B N (fn9_copyFrom_b15 N f) ra rb (nI j) (cpR M d s j) = _
    unfold fn9_copyFrom_b15B cpR
    rw [nk_k, rK_sR, k1, rI_sR, hi, if_pos (nI_le (Nat.le_refl _) (by omega))]
    rfl
  | succ k ih =>
    intro j fuel hj hf
    obtain ⟨f, rfl⟩ : ∃ f, fuel = f + 1 := ⟨fuel - 1, by omega⟩
    have e : am_wR (cpR M d s j) d j (am_R M s j) = cpR M d s (j + 1) := by
      unfold cpR
      rw [wR_sR]
      congr 1
      funext i
      unfold am_u1
      by_cases h1 : i = j
      · rw [if_pos h1, if_pos (by omega), h1]
      · rw [if_neg h1]
        dsimp only
        by_cases h2 : i < j
        · rw [if_pos h2, if_pos (by omega)]
        · rw [if_neg h2, if_neg (by omega)]
    show fn9_copyFrom_b15B N (fn9_copyFrom_b15 N f) ra rb (nI j) (cpR M d s j) = _
    unfold fn9_copyFrom_b15B
    have a1 : am_R (cpR M d s j) ra 0 = d := by unfold cpR; rw [rR_sRn _ _ n1]; exact r1
    have a2 : am_R (cpR M d s j) rb 0 = s := by unfold cpR; rw [rR_sRn _ _ n2]; exact r2
    have a3 : am_R (cpR M d s j) s j = am_R M s j := by unfold cpR; rw [rR_sRn _ _ n3]
    have b1 : am_K (cpR M d s j) = am_K M := rfl
    have b2 : am_L (cpR M d s j) = am_L M := rfl
    have b3 : am_I (cpR M d s j) = am_I M := rfl
    rw [a1, a2, nk_k, nk_k, nk_k, nk_k, nk_k, b1, b2, b3, k1, k2, k3, k4, l3, l4, hi, if_neg (nI_ge (by omega) (by omega)), nk_in (by omega) (by omega), nI_clamp (by omega), a3, hk j (by omega), e, nI_1, ih (j + 1) f (by omega) (by omega)]
    rfl
theorem cp_from {N : Nat} (hN : 100000 ≤ N) {M : am_Mem} {ra rb d s m : Nat} (k1 : am_K M ra = 9) (k2 : am_K M rb = 9) (k3 : am_K M d = 18) (k4 : am_K M s = 18) (l3 : am_L M d = 12) (l4 : am_L M s = 12) (r1 : am_R M ra 0 = d) (r2 : am_R M rb 0 = s) (n1 : ¬ ra = d) (n2 : ¬ rb = d) (n3 : ¬ s = d) (hm : m ≤ 12) (hi : am_I M rb 1 = nI m) (hk : ∀ i, i < m → am_K M (am_R M s i) = 10) :
    fn9_copyFrom N M ra rb = some ((), cpR (am_wI (am_wI M ra 1 (nI m)) ra 2 1) d s m) := by
  unfold fn9_copyFrom fn9_copyFrom_b0
  rw [nk_k, nk_k, k1, k2, hi]
  have := cp_loop (N := N) (M := am_wI (am_wI M ra 1 (nI m)) ra 2 1) (ra := ra) (rb := rb) (d := d) (s := s) (m := m) k1 k2 k3 k4 l3 l4 r1 r2 n1 n2 n3 hm (by rw [rI_ix _ _ _ (by decide), rI_eq]) hk m 0 N (by omega) (by omega)
  have e0 : cpR (am_wI (am_wI M ra 1 (nI m)) ra 2 1) d s 0 = am_wI (am_wI M ra 1 (nI m)) ra 2 1 := by
    unfold cpR
    have : (fun i => if i < 0 then am_R (am_wI (am_wI M ra 1 (nI m)) ra 2 1) s i else am_R (am_wI (am_wI M ra 1 (nI m)) ra 2 1) d i) = am_R (am_wI (am_wI M ra 1 (nI m)) ra 2 1) d := by
      funext i
      rw [if_neg (by omega)]
    rw [this, sR_id]
  rw [e0] at this
  exact this
/-- the reference's rows laid by, as far as j -/
def kpS (M : am_Mem) (b j : Nat) : am_Mem := am_sI M 118 (fun i => if 1488 * b ≤ i ∧ i < 1488 * b + j then am_I M 117 (i - 1488 * b) else am_I M 118 i)
def kpB (M : am_Mem) (b j : Nat) : am_Mem := am_sI M 117 (fun i => if i < j then am_I M 118 (1488 * b + i) else am_I M 117 i)
theorem kp_e (b j : Nat) : (1488 : Int32) * nI b + nI j = nI (1488 * b + j) := by
  rw [show (1488 : Int32) = nI 1488 from rfl, pk_mul, nI_add]
theorem kp_store {N : Nat} {M : am_Mem} (hs : Shp M) {b m : Nat} (hb : b < 2) (hm : am_I M 110 18 = nI m) : ∀ k j fuel, j + k = 1488 → k < fuel → fn12_keep_b32 N fuel 110 (nI b) 0 (nI j) (kpS M b j) = some (1, am_wI (am_wI (kpS M b 1488) 119 b (nI m)) 120 b 1) := by
  intro k
  induction k with
  | zero =>
    intro j fuel hj hf
    obtain ⟨f, rfl⟩ : ∃ f, fuel = f + 1 := ⟨fuel - 1, by omega⟩
    have : j = 1488 := by omega
    subst this
    have s' : Shp (kpS M b 1488) := hs
    have e1 : am_I (kpS M b 1488) 110 18 = nI m := by unfold kpS; rw [rI_sIn _ _ (by decide)]; exact hm
    show fn12_keep_b32B N (fn12_keep_b32 N f) 110 (nI b) 0 (nI 1488) (kpS M b 1488) = _
    unfold fn12_keep_b32B fn12_keep_b127
    rw [if_pos (show (1488 : Int32) ≤ nI 1488 by decide), if_pos rfl, nk_k, sk110 s', sr110_21 s', sr110_22 s', nk_k, nk_k, sk119 s', sk120 s', sl119 s', sl120 s', nk_in (by omega) (by omega), nI_clamp (by omega), e1]
    rfl
  | succ k ih =>
    intro j fuel hj hf
    obtain ⟨f, rfl⟩ : ∃ f, fuel = f + 1 := ⟨fuel - 1, by omega⟩
    have s' : Shp (kpS M b j) := hs
    have e : am_wI (kpS M b j) 118 (1488 * b + j) (am_I (kpS M b j) 117 j) = kpS M b (j + 1) := by
      unfold kpS
      rw [wI_sI, rI_sIn _ _ (by decide)]
      congr 1
      funext i
      unfold am_u1
      by_cases h1 : i = 1488 * b + j
      · rw [if_pos h1, if_pos (by omega), h1, Nat.add_sub_cancel_left]
      · rw [if_neg h1]
        dsimp only
        by_cases h2 : 1488 * b ≤ i ∧ i < 1488 * b + j
        · rw [if_pos h2, if_pos (by omega)]
        · rw [if_neg h2, if_neg (by omega)]
    show fn12_keep_b32B N (fn12_keep_b32 N f) 110 (nI b) 0 (nI j) (kpS M b j) = _
    unfold fn12_keep_b32B fn12_keep_b82
    rw [if_neg (show ¬ (1488 : Int32) ≤ nI j from nI_ge (b := 1488) (by omega) (by omega)), if_pos rfl, nk_k, sk110 s', sr110_17 s', sr110_20 s', nk_k, nk_k, sk117 s', sk118 s', sl117 s', sl118 s', kp_e, nk_in (by omega) (by omega), nk_in (by omega) (by omega), nI_clamp (by omega), nI_clamp (by omega), e, nI_1, ih (j + 1) f (by omega) (by omega)]
    rfl
theorem kp_back {N : Nat} {M : am_Mem} (hs : Shp M) {b m : Nat} (hb : b < 2) (hm : am_I M 119 b = nI m) {v : Int32} (hv : ¬ v = 0) : ∀ k j fuel, j + k = 1488 → k < fuel → fn12_keep_b32 N fuel 110 (nI b) v (nI j) (kpB M b j) = some (1, am_wI (am_wI (kpB M b 1488) 110 18 (nI m)) 110 19 0) := by
  intro k
  induction k with
  | zero =>
    intro j fuel hj hf
    obtain ⟨f, rfl⟩ : ∃ f, fuel = f + 1 := ⟨fuel - 1, by omega⟩
    have : j = 1488 := by omega
    subst this
    have s' : Shp (kpB M b 1488) := hs
    have e1 : am_I (kpB M b 1488) 119 b = nI m := by unfold kpB; rw [rI_sIn _ _ (by decide)]; exact hm
    show fn12_keep_b32B N (fn12_keep_b32 N f) 110 (nI b) v (nI 1488) (kpB M b 1488) = _
    unfold fn12_keep_b32B fn12_keep_b127
    rw [if_pos (show (1488 : Int32) ≤ nI 1488 by decide), if_neg hv, nk_k, sk110 s', sr110_21 s', nk_k, sk119 s', sl119 s', nk_in (by omega) (by omega), nI_clamp (by omega), e1]
    rfl
  | succ k ih =>
    intro j fuel hj hf
    obtain ⟨f, rfl⟩ : ∃ f, fuel = f + 1 := ⟨fuel - 1, by omega⟩
    have s' : Shp (kpB M b j) := hs
    have e : am_wI (kpB M b j) 117 j (am_I (kpB M b j) 118 (1488 * b + j)) = kpB M b (j + 1) := by
      unfold kpB
      rw [wI_sI, rI_sIn _ _ (by decide)]
      congr 1
      funext i
      unfold am_u1
      by_cases h1 : i = j
      · rw [if_pos h1, if_pos (by omega), h1]
      · rw [if_neg h1]
        dsimp only
        by_cases h2 : i < j
        · rw [if_pos h2, if_pos (by omega)]
        · rw [if_neg h2, if_neg (by omega)]
    show fn12_keep_b32B N (fn12_keep_b32 N f) 110 (nI b) v (nI j) (kpB M b j) = _
    unfold fn12_keep_b32B fn12_keep_b82
    rw [if_neg (show ¬ (1488 : Int32) ≤ nI j from nI_ge (b := 1488) (by omega) (by omega)), if_neg hv, nk_k, sk110 s', sr110_17 s', sr110_20 s', nk_k, nk_k, sk117 s', sk118 s', sl117 s', sl118 s', kp_e, nk_in (by omega) (by omega), nk_in (by omega) (by omega), nI_clamp (by omega), nI_clamp (by omega), e, nI_1, ih (j + 1) f (by omega) (by omega)]
    rfl
