/-- how much of a stretch lies in another -/
def l1 (p q a b : Int) : Int := max 0 (min q b - max p a)
theorem l1_nn (p q a b : Int) : 0 ≤ l1 p q a b := by unfold l1; omega
theorem l1_add {p q a b c : Int} (h : p ≤ q) (h1 : a ≤ b) (h2 : b ≤ c) : l1 p q a c = l1 p q a b + l1 p q b c := by unfold l1; omega
def sumL (g : Sz → Int) : List Sz → Int
  | [] => 0
  | q :: l => g q + sumL g l
def ov (x1 y1 x2 y2 : Int) (q : Sz) : Int := l1 q.1 (q.1 + q.2.2) x1 x2 * l1 q.2.1 (q.2.1 + q.2.2) y1 y2
theorem ov_nn (x1 y1 x2 y2 : Int) (q : Sz) : 0 ≤ ov x1 y1 x2 y2 q := Int.mul_nonneg (l1_nn _ _ _ _) (l1_nn _ _ _ _)
theorem sumL_add {g h k : Sz → Int} : ∀ {L : List Sz}, (∀ q ∈ L, g q = h q + k q) → sumL g L = sumL h L + sumL k L
  | [], _ => rfl
  | q :: l, e => by
    show g q + sumL g l = h q + sumL h l + (k q + sumL k l)
    rw [e q List.mem_cons_self, sumL_add (L := l) (fun p hp => e p (List.mem_cons_of_mem _ hp))]
    omega
theorem sumL_le {g h : Sz → Int} : ∀ {L : List Sz}, (∀ q ∈ L, g q ≤ h q) → sumL g L ≤ sumL h L
  | [], _ => Int.le_refl _
  | q :: l, e => by
    show g q + sumL g l ≤ h q + sumL h l
    have := e q List.mem_cons_self
    have := sumL_le (L := l) (fun p hp => e p (List.mem_cons_of_mem _ hp))
    omega
theorem sumL_eq {g h : Sz → Int} : ∀ {L : List Sz}, (∀ q ∈ L, g q = h q) → sumL g L = sumL h L
  | [], _ => rfl
  | q :: l, e => by
    show g q + sumL g l = h q + sumL h l
    rw [e q List.mem_cons_self, sumL_eq (L := l) (fun p hp => e p (List.mem_cons_of_mem _ hp))]
theorem sumL_lt {g h : Sz → Int} : ∀ {L : List Sz}, (∀ q ∈ L, g q ≤ h q) → ∀ q ∈ L, g q < h q → sumL g L < sumL h L
  | p :: l, e, q, hq, hlt => by
    show g p + sumL g l < h p + sumL h l
    have h1 := e p List.mem_cons_self
    have h2 := sumL_le (L := l) (fun p hp => e p (List.mem_cons_of_mem _ hp))
    rcases List.mem_cons.mp hq with rfl | hm
    · omega
    · have := sumL_lt (L := l) (fun p hp => e p (List.mem_cons_of_mem _ hp)) q hm hlt
      omega
theorem sumL_0 {g : Sz → Int} : ∀ {L : List Sz}, (∀ q ∈ L, g q = 0) → sumL g L = 0
  | [], _ => rfl
  | q :: l, e => by
    show g q + sumL g l = 0
    rw [e q List.mem_cons_self, sumL_0 (L := l) (fun p hp => e p (List.mem_cons_of_mem _ hp))]
    rfl
theorem arZ_sum (L : List Sz) : arZ L = sumL (fun q => q.2.2 * q.2.2) L := by
  induction L with
  | nil => rfl
  | cons q l ih =>
    show q.2.2 * q.2.2 + arZ l = q.2.2 * q.2.2 + sumL _ l
    rw [ih]
theorem sov_v {L : List Sz} (hs : ∀ q ∈ L, 1 ≤ q.2.2) {x1 a x2 : Int} (y1 y2 : Int) (h1 : x1 ≤ a) (h2 : a ≤ x2) : sumL (ov x1 y1 x2 y2) L = sumL (ov x1 y1 a y2) L + sumL (ov a y1 x2 y2) L := by
  refine sumL_add (fun q hq => ?_)
  unfold ov
  have := hs q hq
  rw [l1_add (p := q.1) (q := q.1 + q.2.2) (by omega) h1 h2, Int.add_mul]
theorem sov_h {L : List Sz} (hs : ∀ q ∈ L, 1 ≤ q.2.2) {y1 a y2 : Int} (x1 x2 : Int) (h1 : y1 ≤ a) (h2 : a ≤ y2) : sumL (ov x1 y1 x2 y2) L = sumL (ov x1 y1 x2 a) L + sumL (ov x1 a x2 y2) L := by
  refine sumL_add (fun q hq => ?_)
  unfold ov
  have := hs q hq
  rw [l1_add (p := q.2.1) (q := q.2.1 + q.2.2) (by omega) h1 h2, Int.mul_add]
theorem pk_ring (x1 x2 y1 y2 a b c d : Int) : (x2 - x1) * (y2 - y1) = (a - x1) * (y2 - y1) + (x2 - b) * (y2 - y1) + (b - a) * (c - y1) + (b - a) * (y2 - d) + (b - a) * (d - c) := by grind
theorem pack : ∀ {L : List Sz}, L.Pairwise dsZ → (∀ q ∈ L, 1 ≤ q.2.2) → ∀ {x1 y1 x2 y2 : Int}, x1 ≤ x2 → y1 ≤ y2 → sumL (ov x1 y1 x2 y2) L ≤ (x2 - x1) * (y2 - y1)
  | [], _, _, x1, y1, x2, y2, hx, hy => Int.mul_nonneg (by omega) (by omega)
  | q :: l, hp, hs, x1, y1, x2, y2, hx, hy => by
    rw [List.pairwise_cons] at hp
    have hs' : ∀ p ∈ l, 1 ≤ p.2.2 := fun p hp => hs p (List.mem_cons_of_mem _ hp)
    have hq := hs q List.mem_cons_self
    obtain ⟨a, ea⟩ : ∃ a : Int, a = max x1 (min q.1 x2) := ⟨_, rfl⟩
    obtain ⟨b, eb⟩ : ∃ b : Int, b = max x1 (min (q.1 + q.2.2) x2) := ⟨_, rfl⟩
    obtain ⟨c, ec⟩ : ∃ c : Int, c = max y1 (min q.2.1 y2) := ⟨_, rfl⟩
    obtain ⟨d, ed⟩ : ∃ d : Int, d = max y1 (min (q.2.1 + q.2.2) y2) := ⟨_, rfl⟩
    have H1 := sov_v hs' y1 y2 (show x1 ≤ a by omega) (show a ≤ x2 by omega)
    have H2 := sov_v hs' y1 y2 (show a ≤ b by omega) (show b ≤ x2 by omega)
    have H3 := sov_h hs' a b (show y1 ≤ c by omega) (show c ≤ y2 by omega)
    have H4 := sov_h hs' a b (show c ≤ d by omega) (show d ≤ y2 by omega)
    have H5 : sumL (ov a c b d) l = 0 := by
      refine sumL_0 (fun p hpm => ?_)
      have ds := hp.1 p hpm
      have ps := hs' p hpm
      unfold ov
      have z : l1 p.1 (p.1 + p.2.2) a b = 0 ∨ l1 p.2.1 (p.2.1 + p.2.2) c d = 0 := by
        unfold dsZ at ds
        unfold l1
        omega
      rcases z with z | z
      · rw [z, Int.zero_mul]
      · rw [z, Int.mul_zero]
    have I1 := pack hp.2 hs' (show x1 ≤ a by omega) hy
    have I2 := pack hp.2 hs' (show b ≤ x2 by omega) hy
    have I3 := pack hp.2 hs' (show a ≤ b by omega) (show y1 ≤ c by omega)
    have I4 := pack hp.2 hs' (show a ≤ b by omega) (show d ≤ y2 by omega)
    have e : ov x1 y1 x2 y2 q = (b - a) * (d - c) := by
      unfold ov
      rw [show l1 q.1 (q.1 + q.2.2) x1 x2 = b - a by unfold l1; omega, show l1 q.2.1 (q.2.1 + q.2.2) y1 y2 = d - c by unfold l1; omega]
    show ov x1 y1 x2 y2 q + sumL (ov x1 y1 x2 y2) l ≤ _
    rw [e, pk_ring x1 x2 y1 y2 a b c d]
    omega
theorem te_ring (w h x1 x2 y1 y2 : Int) : w * h = (x1 - 0) * (h - 0) + (x2 - x1) * (y1 - 0) + (x2 - x1) * (y2 - y1) + (x2 - x1) * (h - y2) + (w - x2) * (h - 0) := by grind
/-- every part of a rectangle is covered -/
theorem tile {w h : Int} {L : List Sz} (g : GeoZ w h L) {x1 y1 x2 y2 : Int} (a1 : 0 ≤ x1) (a2 : x1 ≤ x2) (a3 : x2 ≤ w) (b1 : 0 ≤ y1) (b2 : y1 ≤ y2) (b3 : y2 ≤ h) : sumL (ov x1 y1 x2 y2) L = (x2 - x1) * (y2 - y1) := by
  obtain ⟨g1, g2, g3, _⟩ := g
  have hs : ∀ q ∈ L, 1 ≤ q.2.2 := fun q hq => (g1 q hq).2.2.1
  have full : sumL (ov 0 0 w h) L = w * h := by
    rw [← g3, arZ_sum]
    refine sumL_eq (fun q hq => ?_)
    obtain ⟨c1, c2, c3, c4, c5⟩ := g1 q hq
    unfold ov
    rw [show l1 q.1 (q.1 + q.2.2) 0 w = q.2.2 by unfold l1; omega, show l1 q.2.1 (q.2.1 + q.2.2) 0 h = q.2.2 by unfold l1; omega]
  have H1 := sov_v hs 0 h a1 (show x1 ≤ w by omega)
  have H2 := sov_v hs 0 h a2 a3
  have H3 := sov_h hs x1 x2 b1 (show y1 ≤ h by omega)
  have H4 := sov_h hs x1 x2 b2 b3
  have I1 := pack g2 hs a1 (show (0 : Int) ≤ h by omega)
  have I2 := pack g2 hs a3 (show (0 : Int) ≤ h by omega)
  have I3 := pack g2 hs a2 b1
  have I4 := pack g2 hs a2 b3
  have I5 := pack g2 hs a2 b2
  have r := te_ring w h x1 x2 y1 y2
  omega
def inR (x1 y1 x2 y2 : Int) (q : Sz) : Prop := x1 ≤ q.1 ∧ y1 ≤ q.2.1 ∧ q.1 + q.2.2 ≤ x2 ∧ q.2.1 + q.2.2 ≤ y2
def toR (x1 y1 x2 y2 : Int) (q : Sz) : Prop := q.1 < x2 ∧ x1 < q.1 + q.2.2 ∧ q.2.1 < y2 ∧ y1 < q.2.1 + q.2.2
theorem ov_in {x1 y1 x2 y2 : Int} {q : Sz} (hs : 1 ≤ q.2.2) (h : inR x1 y1 x2 y2 q) : ov x1 y1 x2 y2 q = q.2.2 * q.2.2 := by
  unfold inR at h
  unfold ov
  rw [show l1 q.1 (q.1 + q.2.2) x1 x2 = q.2.2 by unfold l1; omega, show l1 q.2.1 (q.2.1 + q.2.2) y1 y2 = q.2.2 by unfold l1; omega]
theorem ov_no {x1 y1 x2 y2 : Int} {q : Sz} (h : ¬ toR x1 y1 x2 y2 q) : ov x1 y1 x2 y2 q = 0 := by
  unfold toR at h
  unfold ov
  have z : l1 q.1 (q.1 + q.2.2) x1 x2 = 0 ∨ l1 q.2.1 (q.2.1 + q.2.2) y1 y2 = 0 := by
    unfold l1
    omega
  rcases z with z | z
  · rw [z, Int.zero_mul]
  · rw [z, Int.mul_zero]
theorem ov_to {x1 y1 x2 y2 : Int} {q : Sz} (hs : 1 ≤ q.2.2) (hx : x1 < x2) (hy : y1 < y2) (h : toR x1 y1 x2 y2 q) : 0 < ov x1 y1 x2 y2 q := by
  unfold toR at h
  unfold ov
  exact Int.mul_pos (by unfold l1; omega) (by unfold l1; omega)
section
variable {x1 y1 x2 y2 : Int}
noncomputable def sIn (x1 y1 x2 y2 : Int) (q : Sz) : Int := @ite _ (inR x1 y1 x2 y2 q) (Classical.propDecidable _) (q.2.2 * q.2.2) 0
theorem sIn_pos {q : Sz} (h : inR x1 y1 x2 y2 q) : sIn x1 y1 x2 y2 q = q.2.2 * q.2.2 := if_pos h
theorem sIn_neg {q : Sz} (h : ¬ inR x1 y1 x2 y2 q) : sIn x1 y1 x2 y2 q = 0 := if_neg h
theorem part_A {w h : Int} {L : List Sz} (g : GeoZ w h L) (a1 : 0 ≤ x1) (a2 : x1 < x2) (a3 : x2 ≤ w) (b1 : 0 ≤ y1) (b2 : y1 < y2) (b3 : y2 ≤ h) (hi : ∀ q ∈ L, toR x1 y1 x2 y2 q → inR x1 y1 x2 y2 q) : sumL (sIn x1 y1 x2 y2) L = (x2 - x1) * (y2 - y1) := by
  rw [← tile g a1 (by omega) a3 b1 (by omega) b3]
  refine sumL_eq (fun q hq => ?_)
  have hs := (g.1 q hq).2.2.1
  by_cases e : inR x1 y1 x2 y2 q
  · rw [sIn_pos e, ov_in hs e]
  · rw [sIn_neg e, ov_no (fun t => e (hi q hq t))]
theorem part_B {w h : Int} {L : List Sz} (g : GeoZ w h L) (a2 : x1 < x2) (b2 : y1 < y2) (hi : sumL (sIn x1 y1 x2 y2) L = (x2 - x1) * (y2 - y1)) : ∀ q ∈ L, toR x1 y1 x2 y2 q → inR x1 y1 x2 y2 q := by
  intro q hq ht
  have hs : ∀ q ∈ L, 1 ≤ q.2.2 := fun q hq => (g.1 q hq).2.2.1
  have hp := pack g.2.1 hs (Int.le_of_lt a2) (Int.le_of_lt b2)
  have le : ∀ p ∈ L, sIn x1 y1 x2 y2 p ≤ ov x1 y1 x2 y2 p := by
    intro p hp
    by_cases e : inR x1 y1 x2 y2 p
    · rw [sIn_pos e, ov_in (hs p hp) e]; exact Int.le_refl _
    · rw [sIn_neg e]; exact ov_nn _ _ _ _ _
  by_cases e : inR x1 y1 x2 y2 q
  · exact e
  · have := sumL_lt le q hq (by rw [sIn_neg e]; exact ov_to (hs q hq) a2 b2 ht)
    omega
end
