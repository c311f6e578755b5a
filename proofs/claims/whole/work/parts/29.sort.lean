/-- a square behind another one -/
def gtQ (a b : Sq) : Bool := decide (b.2.1 < a.2.1) || (decide (a.2.1 = b.2.1) && decide (b.1 < a.1))
def upF (f : Nat → Sq) (k : Nat) (v : Sq) : Nat → Sq := fun j => if j = k then v else f j
theorem upF_eq (f : Nat → Sq) (k : Nat) (v : Sq) : upF f k v k = v := if_pos rfl
theorem upF_ne (f : Nat → Sq) {k j : Nat} (v : Sq) (h : ¬ j = k) : upF f k v j = f j := if_neg h
theorem upF_id (f : Nat → Sq) (k : Nat) : upF f k (f k) = f := by
  funext j
  by_cases h : j = k
  · rw [h, upF_eq]
  · rw [upF_ne _ _ h]
theorem upF_up (f : Nat → Sq) (k : Nat) (v w : Sq) : upF (upF f k v) k w = upF f k w := by
  funext j
  by_cases h : j = k
  · rw [h, upF_eq, upF_eq]
  · rw [upF_ne _ _ h, upF_ne _ _ h, upF_ne _ _ h]
def shF (q : Sq) : Nat → (Nat → Sq) → Nat → Sq
  | 0, f => upF f 0 q
  | j + 1, f => if gtQ (f j) q = true then shF q j (upF f (j + 1) (f j)) else upF f (j + 1) q
def swp (f : Nat → Sq) (j : Nat) : Nat → Sq := upF (upF f (j + 1) (f j)) j (f (j + 1))
def swF : Nat → (Nat → Sq) → Nat → Sq
  | 0, f => f
  | j + 1, f => if gtQ (f j) (f (j + 1)) = true then swF j (swp f j) else f
theorem shF_up (q : Sq) : ∀ (j : Nat) (g : Nat → Sq), shF q j (upF g j q) = shF q j g
  | 0, g => by unfold shF; rw [upF_up]
  | j + 1, g => by
    unfold shF
    rw [upF_ne _ _ (by omega), upF_up, upF_up]
theorem sh_sw : ∀ (j : Nat) (f : Nat → Sq), shF (f j) j f = swF j f
  | 0, f => by unfold shF swF; rw [upF_id]
  | j + 1, f => by
    unfold shF swF
    by_cases h : gtQ (f j) (f (j + 1)) = true
    · rw [if_pos h, if_pos h, ← sh_sw j (swp f j)]
      have e : swp f j j = f (j + 1) := upF_eq _ _ _
      rw [e]
      unfold swp
      rw [shF_up]
    · rw [if_neg h, if_neg h, upF_id]
/-- the squares put in order, from place i on, k of them -/
def srt : Nat → Nat → (Nat → Sq) → Nat → Sq
  | 0, _, f => f
  | k + 1, i, f => srt k (i + 1) (swF i f)
def ofF (f : Nat → Sq) (n : Nat) : List Sq := (List.range n).map f
theorem ofF_len (f : Nat → Sq) (n : Nat) : (ofF f n).length = n := by unfold ofF; rw [List.length_map, List.length_range]
theorem ofF_get (f : Nat → Sq) {n k : Nat} (h : k < n) : (ofF f n).getD k (0, 0, 0) = f k := by
  unfold ofF
  rw [List.getD_eq_getElem?_getD, List.getElem?_map, List.getElem?_range h]
  rfl
theorem ofF_X (f : Nat → Sq) {n k : Nat} (h : k < n) : qX (ofF f n) k = (f k).1 := by unfold qX; rw [ofF_get f h]
theorem ofF_Y (f : Nat → Sq) {n k : Nat} (h : k < n) : qY (ofF f n) k = (f k).2.1 := by unfold qY; rw [ofF_get f h]
theorem ofF_S (f : Nat → Sq) {n k : Nat} (h : k < n) : qS (ofF f n) k = (f k).2.2 := by unfold qS; rw [ofF_get f h]
theorem ofF_succ (f : Nat → Sq) (n : Nat) : ofF f (n + 1) = ofF f n ++ [f n] := by
  unfold ofF
  rw [List.range_succ, List.map_append]
  rfl
theorem ofF_ext {f g : Nat → Sq} {n : Nat} (h : ∀ k, k < n → f k = g k) : ofF f n = ofF g n := by
  unfold ofF
  exact List.map_congr_left (fun k hk => h k (List.mem_range.mp hk))
theorem ofF_mem {f : Nat → Sq} {n : Nat} {q : Sq} : q ∈ ofF f n ↔ ∃ k, k < n ∧ f k = q := by
  unfold ofF
  rw [List.mem_map]
  constructor
  · rintro ⟨k, hk, e⟩; exact ⟨k, List.mem_range.mp hk, e⟩
  · rintro ⟨k, hk, e⟩; exact ⟨k, List.mem_range.mpr hk, e⟩
theorem swp_lo (f : Nat → Sq) {j k : Nat} (h : ¬ k = j) (h2 : ¬ k = j + 1) : swp f j k = f k := by
  unfold swp
  rw [upF_ne _ _ h, upF_ne _ _ h2]
theorem swp_j (f : Nat → Sq) (j : Nat) : swp f j j = f (j + 1) := upF_eq _ _ _
theorem swp_j1 (f : Nat → Sq) (j : Nat) : swp f j (j + 1) = f j := by
  unfold swp
  rw [upF_ne _ _ (by omega), upF_eq]
theorem swp_perm (f : Nat → Sq) (j : Nat) : ∀ n, j + 2 ≤ n → (ofF (swp f j) n).Perm (ofF f n) := by
  intro n
  induction n with
  | zero => intro h; omega
  | succ n ih =>
    intro h
    by_cases hn : j + 2 ≤ n
    · rw [ofF_succ, ofF_succ, swp_lo f (by omega) (by omega)]
      exact (ih hn).append_right _
    · have : n = j + 1 := by omega
      subst this
      rw [ofF_succ, ofF_succ, ofF_succ, ofF_succ, swp_j, swp_j1, ofF_ext (f := swp f j) (g := f) (n := j) (fun k hk => swp_lo f (by omega) (by omega)), List.append_assoc, List.append_assoc]
      exact List.Perm.append_left _ (List.Perm.swap _ _ _)
theorem swF_perm : ∀ (j : Nat) (f : Nat → Sq) (n : Nat), j < n → (ofF (swF j f) n).Perm (ofF f n)
  | 0, f, n, _ => List.Perm.refl _
  | j + 1, f, n, h => by
    unfold swF
    split
    · exact (swF_perm j (swp f j) n (by omega)).trans (swp_perm f j n (by omega))
    · exact List.Perm.refl _
theorem srt_perm : ∀ (k i : Nat) (f : Nat → Sq) (n : Nat), i + k ≤ n → (ofF (srt k i f) n).Perm (ofF f n)
  | 0, _, f, n, _ => List.Perm.refl _
  | k + 1, i, f, n, h => (srt_perm k (i + 1) (swF i f) n (by omega)).trans (swF_perm i f n (by omega))
theorem area_perm {L L' : List Sq} (h : L.Perm L') : areaOf L = areaOf L' := by
  unfold areaOf
  induction h with
  | nil => rfl
  | cons x _ ih => rw [List.map_cons, List.map_cons, List.sum_cons, List.sum_cons, ih]
  | swap x y l => simp only [List.map_cons, List.sum_cons]; omega
  | trans _ _ a b => exact a.trans b
theorem dsj_symm {p q : Sq} (h : dsj p q) : dsj q p := by
  unfold dsj at h ⊢
  omega
theorem geo_perm {w h : Int} {L L' : List Sq} (p : L'.Perm L) (g : Geo w h L) : Geo w h L' := by
  obtain ⟨g1, g2, g3, g4, g5, g6, g7, g8⟩ := g
  refine ⟨by rw [p.length_eq]; exact g1, by rw [p.length_eq]; exact g2, g3, g4, fun q hq => g5 q (p.mem_iff.mp hq), (p.pairwise_iff (fun h => dsj_symm h)).mpr g6, by rw [area_perm p]; exact g7, fun d hd => ?_⟩
  obtain ⟨a, b⟩ := g8 d (fun q hq => hd q (p.mem_iff.mpr hq))
  exact ⟨fun q hq => a q (p.mem_iff.mp hq), b⟩
/-- in order -/
def Sd (f : Nat → Sq) (n : Nat) : Prop := ∀ k, k + 1 < n → gtQ (f k) (f (k + 1)) = false
theorem gt_asym {a b : Sq} (h : gtQ a b = true) : gtQ b a = false := by
  unfold gtQ at h ⊢
  rw [Bool.or_eq_true, Bool.and_eq_true, decide_eq_true_eq, decide_eq_true_eq, decide_eq_true_eq] at h
  rw [Bool.or_eq_false_iff, Bool.and_eq_false_iff, decide_eq_false_iff_not, decide_eq_false_iff_not, decide_eq_false_iff_not]
  rw [Int32.lt_iff_toInt_lt, Int32.lt_iff_toInt_lt, ← Int32.toInt_inj] at *
  omega
theorem swF_Sd (i : Nat) : ∀ (j : Nat) (f : Nat → Sq), (∀ k, k + 1 < j → gtQ (f k) (f (k + 1)) = false) → (∀ k, j ≤ k → k + 1 ≤ i → gtQ (f k) (f (k + 1)) = false) → (∀ k, k + 1 = j → k + 2 ≤ i → gtQ (f k) (f (k + 2)) = false) → Sd (swF j f) (i + 1) := by
  intro j
  induction j with
  | zero => intro f _ h2 _ k hk; exact h2 k (Nat.zero_le _) (by omega)
  | succ j ih =>
    intro f h1 h2 h3
    unfold swF
    by_cases h : gtQ (f j) (f (j + 1)) = true
    · rw [if_pos h]
      refine ih (swp f j) (fun k hk => ?_) (fun k hk hk2 => ?_) (fun k hk hk2 => ?_)
      · rw [swp_lo f (by omega) (by omega), swp_lo f (by omega) (by omega)]
        exact h1 k (by omega)
      · by_cases e : k = j
        · subst e
          rw [swp_j, swp_j1]
          exact gt_asym h
        · by_cases e1 : k = j + 1
          · subst e1
            rw [swp_j1, swp_lo f (by omega) (by omega)]
            exact h3 j rfl hk2
          · rw [swp_lo f e e1, swp_lo f (by omega) (by omega)]
            exact h2 k (by omega) hk2
      · rw [swp_lo f (by omega) (by omega), show k + 2 = j + 1 from by omega, swp_j1]
        have := h1 k (by omega)
        rw [hk] at this
        exact this
    · rw [if_neg h]
      intro k hk
      by_cases e : k = j
      · subst e; exact Bool.eq_false_iff.mpr h
      · by_cases e1 : k < j
        · exact h1 k (by omega)
        · exact h2 k (by omega) (by omega)
theorem srt_Sd : ∀ (k i : Nat) (f : Nat → Sq), Sd f i → Sd (srt k i f) (i + k)
  | 0, _, f, h => h
  | k + 1, i, f, h => by
    have := srt_Sd k (i + 1) (swF i f) (swF_Sd i i f (fun k hk => h k hk) (fun k a b => by omega) (fun k a b => by omega))
    rw [show i + 1 + k = i + (k + 1) from by omega] at this
    exact this
theorem swF_id {f : Nat → Sq} {i : Nat} (h : Sd f (i + 1)) : swF i f = f := by
  match i with
  | 0 => rfl
  | j + 1 =>
    unfold swF
    rw [if_neg (by rw [h j (by omega)]; decide)]
theorem srt_id : ∀ (k i : Nat) (f : Nat → Sq), Sd f (i + k) → srt k i f = f
  | 0, _, _, _ => rfl
  | k + 1, i, f, h => by
    have e : swF i f = f := swF_id (fun j hj => h j (by omega))
    unfold srt
    rw [e]
    exact srt_id k (i + 1) f (by rw [show i + 1 + k = i + (k + 1) from by omega]; exact h)
/-- all n of them -/
def sor (n : Nat) (f : Nat → Sq) : Nat → Sq := srt (n - 1) 1 f
theorem sor_perm (n : Nat) (f : Nat → Sq) : (ofF (sor n f) n).Perm (ofF f n) := by
  unfold sor
  match n with
  | 0 => exact List.Perm.refl _
  | n + 1 => exact srt_perm n 1 f (n + 1) (by omega)
theorem sor_Sd (n : Nat) (f : Nat → Sq) : Sd (sor n f) n := by
  unfold sor
  match n with
  | 0 => intro k hk; omega
  | n + 1 =>
    have := srt_Sd n 1 f (fun k hk => by omega)
    rw [Nat.add_comm] at this
    exact this
theorem sor_id {n : Nat} {f : Nat → Sq} (h : Sd f n) : sor n f = f := by
  unfold sor
  match n with
  | 0 => rfl
  | n + 1 => exact srt_id n 1 f (by rw [Nat.add_comm]; exact h)
theorem sor_sor (n : Nat) (f : Nat → Sq) : sor n (sor n f) = sor n f := sor_id (sor_Sd n f)
