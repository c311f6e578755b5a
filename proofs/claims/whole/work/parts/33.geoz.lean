/-- squares over the whole numbers -/
abbrev Sz : Type := Int × Int × Int
def toZ (q : Sq) : Sz := (q.1.toInt, q.2.1.toInt, q.2.2.toInt)
def dsZ (p q : Sz) : Prop := p.1 + p.2.2 ≤ q.1 ∨ q.1 + q.2.2 ≤ p.1 ∨ p.2.1 + p.2.2 ≤ q.2.1 ∨ q.2.1 + q.2.2 ≤ p.2.1
def inZ (w h : Int) (q : Sz) : Prop := 0 ≤ q.1 ∧ 0 ≤ q.2.1 ∧ 1 ≤ q.2.2 ∧ q.1 + q.2.2 ≤ w ∧ q.2.1 + q.2.2 ≤ h
def arZ : List Sz → Int
  | [] => 0
  | q :: l => q.2.2 * q.2.2 + arZ l
def GeoZ (w h : Int) (L : List Sz) : Prop := (∀ q ∈ L, inZ w h q) ∧ L.Pairwise dsZ ∧ arZ L = w * h ∧ ∀ g : Int, (∀ q ∈ L, g ∣ q.2.2) → (∀ q ∈ L, g ∣ q.1 ∧ g ∣ q.2.1) ∧ g ∣ w ∧ g ∣ h
theorem ar_Z (L : List Sq) : areaOf L = arZ (L.map toZ) := by
  unfold areaOf
  induction L with
  | nil => rfl
  | cons q l ih =>
    rw [List.map_cons, List.sum_cons, List.map_cons, ih]
    rfl
theorem geo_Z {w h : Int} {L : List Sq} : Geo w h L ↔ 1 ≤ L.length ∧ L.length ≤ 40 ∧ w ≤ 1000000000 ∧ h ≤ 1000000000 ∧ GeoZ w h (L.map toZ) := by
  unfold Geo GeoZ
  rw [ar_Z, List.pairwise_map]
  simp only [List.forall_mem_map]
  exact Iff.rfl
theorem arZ_app (L K : List Sz) : arZ (L ++ K) = arZ L + arZ K := by
  induction L with
  | nil => show arZ K = 0 + arZ K; omega
  | cons q l ih =>
    show q.2.2 * q.2.2 + arZ (l ++ K) = q.2.2 * q.2.2 + arZ l + arZ K
    rw [ih]
    omega
theorem arZ_same (T : Sz → Sz) (hT : ∀ q, (T q).2.2 = q.2.2) (L : List Sz) : arZ (L.map T) = arZ L := by
  induction L with
  | nil => rfl
  | cons q l ih =>
    show (T q).2.2 * (T q).2.2 + arZ (l.map T) = q.2.2 * q.2.2 + arZ l
    rw [hT, ih]
theorem arZ_scale (c : Int) (L : List Sz) : arZ (L.map (fun q => (q.1 * c, q.2.1 * c, q.2.2 * c))) = arZ L * (c * c) := by
  induction L with
  | nil => show (0 : Int) = 0 * (c * c); rw [Int.zero_mul]
  | cons q l ih =>
    show q.2.2 * c * (q.2.2 * c) + arZ (l.map (fun q => (q.1 * c, q.2.1 * c, q.2.2 * c))) = (q.2.2 * q.2.2 + arZ l) * (c * c)
    rw [ih, Int.add_mul]
    congr 1
    rw [Int.mul_assoc, Int.mul_assoc]
    congr 1
    rw [Int.mul_left_comm]
theorem pw_mem {R : Sz → Sz → Prop} {P : Sz → Prop} {S : Sz → Sz → Prop} {L : List Sz} (h : L.Pairwise R) (hP : ∀ q ∈ L, P q) (hi : ∀ p q, P p → P q → R p q → S p q) : L.Pairwise S := by
  induction L with
  | nil => exact List.Pairwise.nil
  | cons a l ih =>
    rw [List.pairwise_cons] at h ⊢
    exact ⟨fun b hb => hi a b (hP a List.mem_cons_self) (hP b (List.mem_cons_of_mem _ hb)) (h.1 b hb), ih h.2 (fun q hq => hP q (List.mem_cons_of_mem _ hq))⟩
theorem geoZ_mirror {w h : Int} {L : List Sz} (g : GeoZ w h L) : GeoZ w h (L.map (fun q => (w - q.1 - q.2.2, q.2.1, q.2.2))) := by
  obtain ⟨g1, g2, g3, g4⟩ := g
  refine ⟨?_, ?_, by rw [arZ_same]; exact g3; exact fun _ => rfl, fun d hd => ?_⟩
  · intro q hq
    obtain ⟨p, hp, rfl⟩ := List.mem_map.mp hq
    have := g1 p hp
    unfold inZ at this ⊢
    show 0 ≤ w - p.1 - p.2.2 ∧ 0 ≤ p.2.1 ∧ 1 ≤ p.2.2 ∧ w - p.1 - p.2.2 + p.2.2 ≤ w ∧ p.2.1 + p.2.2 ≤ h
    omega
  · rw [List.pairwise_map]
    refine g2.imp ?_
    intro a b hab
    unfold dsZ at hab ⊢
    show w - a.1 - a.2.2 + a.2.2 ≤ w - b.1 - b.2.2 ∨ w - b.1 - b.2.2 + b.2.2 ≤ w - a.1 - a.2.2 ∨ a.2.1 + a.2.2 ≤ b.2.1 ∨ b.2.1 + b.2.2 ≤ a.2.1
    omega
  · obtain ⟨h1, h2, h3⟩ := g4 d (fun q hq => hd (w - q.1 - q.2.2, q.2.1, q.2.2) (List.mem_map.mpr ⟨q, hq, rfl⟩))
    refine ⟨fun q hq => ?_, h2, h3⟩
    obtain ⟨p, hp, rfl⟩ := List.mem_map.mp hq
    have hs : d ∣ p.2.2 := hd (w - p.1 - p.2.2, p.2.1, p.2.2) hq
    exact ⟨Int.dvd_sub (Int.dvd_sub h2 (h1 p hp).1) hs, (h1 p hp).2⟩
theorem geoZ_quarter {w h : Int} {L : List Sz} (g : GeoZ w h L) : GeoZ h w (L.map (fun q => (h - q.2.1 - q.2.2, q.1, q.2.2))) := by
  obtain ⟨g1, g2, g3, g4⟩ := g
  refine ⟨?_, ?_, by rw [arZ_same, g3, Int.mul_comm]; exact fun _ => rfl, fun d hd => ?_⟩
  · intro q hq
    obtain ⟨p, hp, rfl⟩ := List.mem_map.mp hq
    have := g1 p hp
    unfold inZ at this ⊢
    show 0 ≤ h - p.2.1 - p.2.2 ∧ 0 ≤ p.1 ∧ 1 ≤ p.2.2 ∧ h - p.2.1 - p.2.2 + p.2.2 ≤ h ∧ p.1 + p.2.2 ≤ w
    omega
  · rw [List.pairwise_map]
    refine g2.imp ?_
    intro a b hab
    unfold dsZ at hab ⊢
    show h - a.2.1 - a.2.2 + a.2.2 ≤ h - b.2.1 - b.2.2 ∨ h - b.2.1 - b.2.2 + b.2.2 ≤ h - a.2.1 - a.2.2 ∨ a.1 + a.2.2 ≤ b.1 ∨ b.1 + b.2.2 ≤ a.1
    omega
  · obtain ⟨h1, h2, h3⟩ := g4 d (fun q hq => hd (h - q.2.1 - q.2.2, q.1, q.2.2) (List.mem_map.mpr ⟨q, hq, rfl⟩))
    refine ⟨fun q hq => ?_, h3, h2⟩
    obtain ⟨p, hp, rfl⟩ := List.mem_map.mp hq
    have hs : d ∣ p.2.2 := hd (h - p.2.1 - p.2.2, p.1, p.2.2) hq
    exact ⟨Int.dvd_sub (Int.dvd_sub h3 (h1 p hp).2) hs, (h1 p hp).1⟩
/-- what divides c times the sizes -/
theorem dvd_scale (d c : Int) (hc : 1 ≤ c) : ∃ e : Int, (∀ s : Int, d ∣ s * c → e ∣ s) ∧ ∀ x : Int, e ∣ x → d ∣ x * c := by
  by_cases hd : d = 0
  · subst hd
    refine ⟨0, fun s hs => ?_, fun x hx => ?_⟩
    · have h1 := Int.zero_dvd.mp hs
      rcases Int.mul_eq_zero.mp h1 with h | h
      · rw [h]; exact Int.dvd_refl 0
      · omega
    · rw [Int.zero_dvd.mp hx, Int.zero_mul]
      exact Int.dvd_refl 0
  · have hD : 0 < d.natAbs := by omega
    have hG : 0 < Nat.gcd d.natAbs c.natAbs := Nat.gcd_pos_of_pos_left _ hD
    obtain ⟨D', hD'⟩ := Nat.gcd_dvd_left d.natAbs c.natAbs
    obtain ⟨C', hC'⟩ := Nat.gcd_dvd_right d.natAbs c.natAbs
    have cop : Nat.Coprime D' C' := by
      have := Nat.coprime_div_gcd_div_gcd hG
      have e1 : d.natAbs / Nat.gcd d.natAbs c.natAbs = D' := Nat.div_eq_of_eq_mul_right hG hD'
      have e2 : c.natAbs / Nat.gcd d.natAbs c.natAbs = C' := Nat.div_eq_of_eq_mul_right hG hC'
      rw [e1, e2] at this
      exact this
    refine ⟨(D' : Int), fun s hs => ?_, fun x hx => ?_⟩
    · have h1 : d.natAbs ∣ s.natAbs * c.natAbs := by
        rw [← Int.natAbs_mul]
        exact Int.natAbs_dvd_natAbs.mpr hs
      have h2 : Nat.gcd d.natAbs c.natAbs * D' ∣ Nat.gcd d.natAbs c.natAbs * (s.natAbs * C') := by
        have e : Nat.gcd d.natAbs c.natAbs * (s.natAbs * C') = s.natAbs * c.natAbs := by
          rw [Nat.mul_left_comm, ← hC']
        rw [e, ← hD']
        exact h1
      have h3 : D' ∣ s.natAbs * C' := Nat.dvd_of_mul_dvd_mul_left hG h2
      have h4 : D' ∣ s.natAbs := cop.dvd_of_dvd_mul_right h3
      exact Int.ofNat_dvd_left.mpr h4
    · have h4 : D' ∣ x.natAbs := Int.ofNat_dvd_left.mp hx
      have h5 : d.natAbs ∣ x.natAbs * c.natAbs := by
        have e : x.natAbs * c.natAbs = Nat.gcd d.natAbs c.natAbs * (x.natAbs * C') := by
          rw [Nat.mul_left_comm, ← hC']
        rw [e]
        conv => lhs; rw [hD']
        exact Nat.mul_dvd_mul_left _ (Nat.dvd_trans h4 (Nat.dvd_mul_right _ _))
      rw [← Int.natAbs_mul] at h5
      exact Int.natAbs_dvd_natAbs.mp h5
theorem geoZ_scale {w h c : Int} {L : List Sz} (hc : 1 ≤ c) (g : GeoZ w h L) : GeoZ (w * c) (h * c) (L.map (fun q => (q.1 * c, q.2.1 * c, q.2.2 * c))) := by
  obtain ⟨g1, g2, g3, g4⟩ := g
  have hc0 : (0 : Int) ≤ c := by omega
  refine ⟨?_, ?_, ?_, fun d hd => ?_⟩
  · intro q hq
    obtain ⟨p, hp, rfl⟩ := List.mem_map.mp hq
    obtain ⟨a1, a2, a3, a4, a5⟩ := g1 p hp
    refine ⟨Int.mul_nonneg a1 hc0, Int.mul_nonneg a2 hc0, ?_, ?_, ?_⟩
    · show 1 ≤ p.2.2 * c
      have := Int.mul_pos (show 0 < p.2.2 by omega) (show 0 < c by omega)
      omega
    · show p.1 * c + p.2.2 * c ≤ w * c
      rw [← Int.add_mul]
      exact Int.mul_le_mul_of_nonneg_right a4 hc0
    · show p.2.1 * c + p.2.2 * c ≤ h * c
      rw [← Int.add_mul]
      exact Int.mul_le_mul_of_nonneg_right a5 hc0
  · rw [List.pairwise_map]
    refine g2.imp ?_
    intro a b hab
    show a.1 * c + a.2.2 * c ≤ b.1 * c ∨ b.1 * c + b.2.2 * c ≤ a.1 * c ∨ a.2.1 * c + a.2.2 * c ≤ b.2.1 * c ∨ b.2.1 * c + b.2.2 * c ≤ a.2.1 * c
    rw [← Int.add_mul, ← Int.add_mul, ← Int.add_mul, ← Int.add_mul]
    rcases hab with h | h | h | h
    · exact Or.inl (Int.mul_le_mul_of_nonneg_right h hc0)
    · exact Or.inr (Or.inl (Int.mul_le_mul_of_nonneg_right h hc0))
    · exact Or.inr (Or.inr (Or.inl (Int.mul_le_mul_of_nonneg_right h hc0)))
    · exact Or.inr (Or.inr (Or.inr (Int.mul_le_mul_of_nonneg_right h hc0)))
  · rw [arZ_scale, g3, Int.mul_assoc, Int.mul_assoc]
    congr 1
    rw [Int.mul_left_comm]
  · obtain ⟨e, e1, e2⟩ := dvd_scale d c hc
    obtain ⟨h1, h2, h3⟩ := g4 e (fun q hq => e1 _ (hd _ (List.mem_map.mpr ⟨q, hq, rfl⟩)))
    refine ⟨fun q hq => ?_, e2 _ h2, e2 _ h3⟩
    obtain ⟨p, hp, rfl⟩ := List.mem_map.mp hq
    exact ⟨e2 _ (h1 p hp).1, e2 _ (h1 p hp).2⟩
/-- all divided by a number that divides the sizes -/
theorem geoZ_div {w h c : Int} {L K : List Sz} (hc : 1 ≤ c) (e : L = K.map (fun q => (q.1 * c, q.2.1 * c, q.2.2 * c))) {w' h' : Int} (ew : w = w' * c) (eh : h = h' * c) (g : GeoZ w h L) : GeoZ w' h' K := by
  obtain ⟨g1, g2, g3, g4⟩ := g
  subst e ew eh
  have hc0 : (0 : Int) < c := by omega
  have le : ∀ {a b : Int}, a * c ≤ b * c → a ≤ b := fun h => Int.le_of_mul_le_mul_right h hc0
  refine ⟨?_, ?_, ?_, fun d hd => ?_⟩
  · intro q hq
    obtain ⟨a1, a2, a3, a4, a5⟩ := g1 _ (List.mem_map.mpr ⟨q, hq, rfl⟩)
    have a1' : 0 ≤ q.1 * c := a1
    have a2' : 0 ≤ q.2.1 * c := a2
    have a3' : 1 ≤ q.2.2 * c := a3
    have a4' : q.1 * c + q.2.2 * c ≤ w' * c := a4
    have a5' : q.2.1 * c + q.2.2 * c ≤ h' * c := a5
    rw [← Int.add_mul] at a4' a5'
    refine ⟨le (by rw [Int.zero_mul]; exact a1'), le (by rw [Int.zero_mul]; exact a2'), ?_, le a4', le a5'⟩
    have : 0 < q.2.2 := Int.lt_of_mul_lt_mul_right (by rw [Int.zero_mul]; omega) (Int.le_of_lt hc0)
    omega
  · rw [List.pairwise_map] at g2
    refine g2.imp ?_
    intro a b hab
    have hab' : a.1 * c + a.2.2 * c ≤ b.1 * c ∨ b.1 * c + b.2.2 * c ≤ a.1 * c ∨ a.2.1 * c + a.2.2 * c ≤ b.2.1 * c ∨ b.2.1 * c + b.2.2 * c ≤ a.2.1 * c := hab
    rw [← Int.add_mul, ← Int.add_mul, ← Int.add_mul, ← Int.add_mul] at hab'
    rcases hab' with h | h | h | h
    · exact Or.inl (le h)
    · exact Or.inr (Or.inl (le h))
    · exact Or.inr (Or.inr (Or.inl (le h)))
    · exact Or.inr (Or.inr (Or.inr (le h)))
  · rw [arZ_scale] at g3
    have e2 : w' * c * (h' * c) = w' * h' * (c * c) := by
      rw [Int.mul_assoc, Int.mul_assoc]
      congr 1
      rw [Int.mul_left_comm]
    rw [e2] at g3
    exact Int.eq_of_mul_eq_mul_right (Int.ne_of_gt (Int.mul_pos hc0 hc0)) g3
  · have cn : c ≠ 0 := by omega
    have hdc : ∀ {x : Int}, d * c ∣ x * c → d ∣ x := fun h => Int.dvd_of_mul_dvd_mul_right cn h
    obtain ⟨h1, h2, h3⟩ := g4 (d * c) (fun q hq => by
      obtain ⟨p, hp, rfl⟩ := List.mem_map.mp hq
      exact Int.mul_dvd_mul_right _ (hd p hp))
    refine ⟨fun q hq => ?_, hdc h2, hdc h3⟩
    have := h1 _ (List.mem_map.mpr ⟨q, hq, rfl⟩)
    exact ⟨hdc this.1, hdc this.2⟩
theorem geoZ_below {w h1 h2 : Int} {L K : List Sz} (n1 : 0 ≤ h1) (n2 : 0 ≤ h2) (g : GeoZ w h1 L) (k : GeoZ w h2 K) : GeoZ w (h1 + h2) (L ++ K.map (fun q => (q.1, q.2.1 + h1, q.2.2))) := by
  obtain ⟨g1, g2, g3, g4⟩ := g
  obtain ⟨k1, k2, k3, k4⟩ := k
  refine ⟨?_, ?_, ?_, fun d hd => ?_⟩
  · intro q hq
    rcases List.mem_append.mp hq with hq | hq
    · have := g1 q hq
      unfold inZ at this ⊢
      omega
    · obtain ⟨p, hp, rfl⟩ := List.mem_map.mp hq
      have := k1 p hp
      unfold inZ at this ⊢
      show 0 ≤ p.1 ∧ 0 ≤ p.2.1 + h1 ∧ 1 ≤ p.2.2 ∧ p.1 + p.2.2 ≤ w ∧ p.2.1 + h1 + p.2.2 ≤ h1 + h2
      omega
  · rw [List.pairwise_append, List.pairwise_map]
    refine ⟨g2, k2.imp ?_, fun a ha b hb => ?_⟩
    · intro a b hab
      unfold dsZ at hab ⊢
      show a.1 + a.2.2 ≤ b.1 ∨ b.1 + b.2.2 ≤ a.1 ∨ a.2.1 + h1 + a.2.2 ≤ b.2.1 + h1 ∨ b.2.1 + h1 + b.2.2 ≤ a.2.1 + h1
      omega
    · obtain ⟨p, hp, rfl⟩ := List.mem_map.mp hb
      have x1 := g1 a ha
      have x2 := k1 p hp
      unfold inZ at x1 x2
      right; right; left
      show a.2.1 + a.2.2 ≤ p.2.1 + h1
      omega
  · rw [arZ_app, arZ_same, g3, k3, Int.mul_add]
    exact fun _ => rfl
  · obtain ⟨a1, a2, a3⟩ := g4 d (fun q hq => hd q (List.mem_append.mpr (Or.inl hq)))
    obtain ⟨b1, b2, b3⟩ := k4 d (fun q hq => hd (q.1, q.2.1 + h1, q.2.2) (List.mem_append.mpr (Or.inr (List.mem_map.mpr ⟨q, hq, rfl⟩))))
    refine ⟨fun q hq => ?_, a2, Int.dvd_add a3 b3⟩
    rcases List.mem_append.mp hq with hq | hq
    · exact a1 q hq
    · obtain ⟨p, hp, rfl⟩ := List.mem_map.mp hq
      exact ⟨(b1 p hp).1, Int.dvd_add (b1 p hp).2 a3⟩
theorem geoZ_right {h w1 w2 : Int} {L K : List Sz} (n1 : 0 ≤ w1) (n2 : 0 ≤ w2) (g : GeoZ w1 h L) (k : GeoZ w2 h K) : GeoZ (w1 + w2) h (L ++ K.map (fun q => (q.1 + w1, q.2.1, q.2.2))) := by
  obtain ⟨g1, g2, g3, g4⟩ := g
  obtain ⟨k1, k2, k3, k4⟩ := k
  refine ⟨?_, ?_, ?_, fun d hd => ?_⟩
  · intro q hq
    rcases List.mem_append.mp hq with hq | hq
    · have := g1 q hq
      unfold inZ at this ⊢
      omega
    · obtain ⟨p, hp, rfl⟩ := List.mem_map.mp hq
      have := k1 p hp
      unfold inZ at this ⊢
      show 0 ≤ p.1 + w1 ∧ 0 ≤ p.2.1 ∧ 1 ≤ p.2.2 ∧ p.1 + w1 + p.2.2 ≤ w1 + w2 ∧ p.2.1 + p.2.2 ≤ h
      omega
  · rw [List.pairwise_append, List.pairwise_map]
    refine ⟨g2, k2.imp ?_, fun a ha b hb => ?_⟩
    · intro a b hab
      unfold dsZ at hab ⊢
      show a.1 + w1 + a.2.2 ≤ b.1 + w1 ∨ b.1 + w1 + b.2.2 ≤ a.1 + w1 ∨ a.2.1 + a.2.2 ≤ b.2.1 ∨ b.2.1 + b.2.2 ≤ a.2.1
      omega
    · obtain ⟨p, hp, rfl⟩ := List.mem_map.mp hb
      have x1 := g1 a ha
      have x2 := k1 p hp
      unfold inZ at x1 x2
      left
      show a.1 + a.2.2 ≤ p.1 + w1
      omega
  · rw [arZ_app, arZ_same, g3, k3, Int.add_mul]
    exact fun _ => rfl
  · obtain ⟨a1, a2, a3⟩ := g4 d (fun q hq => hd q (List.mem_append.mpr (Or.inl hq)))
    obtain ⟨b1, b2, b3⟩ := k4 d (fun q hq => hd (q.1 + w1, q.2.1, q.2.2) (List.mem_append.mpr (Or.inr (List.mem_map.mpr ⟨q, hq, rfl⟩))))
    refine ⟨fun q hq => ?_, Int.dvd_add a2 b2, a3⟩
    rcases List.mem_append.mp hq with hq | hq
    · exact a1 q hq
    · obtain ⟨p, hp, rfl⟩ := List.mem_map.mp hq
      exact ⟨Int.dvd_add (b1 p hp).1 a2, (b1 p hp).2⟩
theorem geoZ_one {s : Int} (h : 1 ≤ s) : GeoZ s s [(0, 0, s)] := by
  refine ⟨?_, List.pairwise_singleton _ _, ?_, fun d hd => ?_⟩
  · intro q hq
    rw [List.mem_singleton] at hq
    subst hq
    unfold inZ
    show (0 : Int) ≤ 0 ∧ (0 : Int) ≤ 0 ∧ 1 ≤ s ∧ 0 + s ≤ s ∧ 0 + s ≤ s
    omega
  · show s * s + 0 = s * s
    omega
  · have hs : d ∣ s := hd (0, 0, s) List.mem_cons_self
    refine ⟨fun q hq => ?_, hs, hs⟩
    rw [List.mem_singleton] at hq
    subst hq
    exact ⟨Int.dvd_zero d, Int.dvd_zero d⟩
