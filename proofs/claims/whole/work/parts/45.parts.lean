def sumI (g : Nat → Int) : Nat → Int
  | 0 => 0
  | n + 1 => sumI g n + g n
theorem sumI_shift (g : Nat → Int) : ∀ n, sumI g (n + 1) = g 0 + sumI (fun k => g (k + 1)) n
  | 0 => by show 0 + g 0 = g 0 + 0; omega
  | n + 1 => by
    show sumI g (n + 1) + g (n + 1) = g 0 + (sumI (fun k => g (k + 1)) n + g (n + 1))
    rw [sumI_shift g n]
    omega
theorem sumI_ext {g h : Nat → Int} : ∀ {n}, (∀ k, k < n → g k = h k) → sumI g n = sumI h n
  | 0, _ => rfl
  | n + 1, e => by
    show sumI g n + g n = sumI h n + h n
    rw [sumI_ext (fun k hk => e k (by omega)), e n (by omega)]
theorem sumI_L (G : Sz → Int) : ∀ L : List Sq, sumL G (L.map toZ) = sumI (fun k => G (toZ (L.getD k (0, 0, 0)))) L.length
  | [] => rfl
  | q :: l => by
    show G (toZ q) + sumL G (l.map toZ) = sumI _ (l.length + 1)
    rw [sumI_shift, sumI_L G l]
    rfl
theorem cntU_0 {p : Nat → Bool} : ∀ {n}, cntU p n = 0 ↔ ∀ k, k < n → p k = false
  | 0 => ⟨fun _ k hk => absurd hk (Nat.not_lt_zero k), fun _ => rfl⟩
  | n + 1 => by
    unfold cntU
    constructor
    · intro h k hk
      have h1 : cntU p n = 0 := by omega
      by_cases e : k = n
      · subst e
        by_cases e2 : p k = true
        · rw [if_pos e2] at h; omega
        · exact Bool.eq_false_iff.mpr e2
      · exact (cntU_0 (n := n)).mp h1 k (by omega)
    · intro h
      rw [(cntU_0 (n := n)).mpr (fun k hk => h k (by omega)), h n (by omega)]
      rfl
theorem cntU_ext {p q : Nat → Bool} : ∀ {n}, (∀ k, k < n → p k = q k) → cntU p n = cntU q n
  | 0, _ => rfl
  | n + 1, e => by
    unfold cntU
    rw [cntU_ext (fun k hk => e k (by omega)), e n (by omega)]
theorem cntU_one {p : Nat → Bool} : ∀ {n a}, a < n → p a = true → 1 ≤ cntU p n
  | n + 1, a, h, e => by
    unfold cntU
    by_cases h1 : a = n
    · subst h1; rw [if_pos e]; omega
    · have := cntU_one (n := n) (a := a) (by omega) e
      omega
theorem cntU_two {p : Nat → Bool} : ∀ {n a b}, a < n → b < n → ¬ a = b → p a = true → p b = true → 2 ≤ cntU p n
  | n + 1, a, b, ha, hb, hab, ea, eb => by
    unfold cntU
    by_cases h1 : a = n
    · subst h1
      have := cntU_one (p := p) (n := a) (a := b) (by omega) eb
      rw [if_pos ea]; omega
    · by_cases h2 : b = n
      · subst h2
        have := cntU_one (p := p) (n := b) (a := a) (by omega) ea
        rw [if_pos eb]; omega
      · have := cntU_two (n := n) (by omega) (by omega) hab ea eb
        omega
theorem any_cnt (p : Nat → Bool) (n : Nat) : (cntU p n == 0) = !anyU p 0 n := by
  by_cases h : cntU p n = 0
  · rw [h]
    have : anyU p 0 n = false := by
      rw [Bool.eq_false_iff]
      intro e
      rw [anyU_iff] at e
      obtain ⟨b, _, h2, h3⟩ := e
      have := cntU_0.mp h b (by omega)
      rw [this] at h3
      cases h3
    rw [this]
    rfl
  · have : anyU p 0 n = true := by
      rw [anyU_iff]
      refine Classical.byContradiction (fun e => h (cntU_0.mpr (fun k hk => ?_)))
      rw [Bool.eq_false_iff]
      exact fun e2 => e ⟨k, by omega, by omega, e2⟩
    rw [this, beq_false_of_ne h]
    rfl
/-- a square that lies in a rectangle -/
def inB (L : List Sq) (x1 y1 x2 y2 : Int) (k : Nat) : Bool := decide (x1 ≤ (qX L k).toInt ∧ y1 ≤ (qY L k).toInt ∧ (qX L k).toInt + (qS L k).toInt ≤ x2 ∧ (qY L k).toInt + (qS L k).toInt ≤ y2)
def arI (L : List Sq) (x1 y1 x2 y2 : Int) (n : Nat) : Int := sumI (fun k => if inB L x1 y1 x2 y2 k = true then (qS L k).toInt * (qS L k).toInt else 0) n
def mpB (L : List Sq) (a b : Nat) : Bool :=
  decide ((qX L a).toInt < (qX L b).toInt + (qS L b).toInt) && decide ((qY L a).toInt < (qY L b).toInt + (qS L b).toInt) &&
  decide (1 < cntU (inB L (qX L a).toInt (qY L a).toInt ((qX L b).toInt + (qS L b).toInt) ((qY L b).toInt + (qS L b).toInt)) L.length ∧ cntU (inB L (qX L a).toInt (qY L a).toInt ((qX L b).toInt + (qS L b).toInt) ((qY L b).toInt + (qS L b).toInt)) L.length < L.length ∧
    arI L (qX L a).toInt (qY L a).toInt ((qX L b).toInt + (qS L b).toInt) ((qY L b).toInt + (qS L b).toInt) L.length = ((qX L b).toInt + (qS L b).toInt - (qX L a).toInt) * ((qY L b).toInt + (qS L b).toInt - (qY L a).toInt))
theorem geo_at {w h : Int} {L : List Sq} (g : Geo w h L) {k : Nat} (hk : k < L.length) : 0 ≤ (qX L k).toInt ∧ 0 ≤ (qY L k).toInt ∧ 1 ≤ (qS L k).toInt ∧ (qX L k).toInt + (qS L k).toInt ≤ w ∧ (qY L k).toInt + (qS L k).toInt ≤ h ∧ (qX L k + qS L k).toInt = (qX L k).toInt + (qS L k).toInt ∧ (qY L k + qS L k).toInt = (qY L k).toInt + (qS L k).toInt := by
  have hm : L[k] ∈ L := List.getElem_mem hk
  have h1 := g.2.2.2.2.1 _ hm
  have h2 := g.2.2.1
  have h3 := g.2.2.2.1
  unfold sqIn at h1
  unfold qX qY qS
  rw [q_getD hk]
  refine ⟨by omega, by omega, by omega, by omega, by omega, i32_add (by omega) (by omega), i32_add (by omega) (by omega)⟩
theorem inB_iff {L : List Sq} {x1 y1 x2 y2 : Int} {k : Nat} : inB L x1 y1 x2 y2 k = true ↔ (x1 ≤ (qX L k).toInt ∧ y1 ≤ (qY L k).toInt ∧ (qX L k).toInt + (qS L k).toInt ≤ x2 ∧ (qY L k).toInt + (qS L k).toInt ≤ y2) := by
  unfold inB
  exact decide_eq_true_iff
theorem arI_L (L : List Sq) (x1 y1 x2 y2 : Int) : arI L x1 y1 x2 y2 L.length = sumL (sIn x1 y1 x2 y2) (L.map toZ) := by
  rw [sumI_L]
  unfold arI
  refine sumI_ext (fun k hk => ?_)
  by_cases e : inB L x1 y1 x2 y2 k = true
  · rw [if_pos e, sIn_pos (show inR x1 y1 x2 y2 (toZ (L.getD k (0, 0, 0))) from inB_iff.mp e)]
    rfl
  · rw [if_neg e, sIn_neg (show ¬ inR x1 y1 x2 y2 (toZ (L.getD k (0, 0, 0))) from fun h => e (inB_iff.mpr h))]
theorem mem_Z {L : List Sq} {q : Sz} : q ∈ L.map toZ ↔ ∃ k, k < L.length ∧ q = toZ (L.getD k (0, 0, 0)) := by
  rw [List.mem_map]
  constructor
  · rintro ⟨p, hp, rfl⟩
    obtain ⟨k, hk, rfl⟩ := List.getElem_of_mem hp
    exact ⟨k, hk, by rw [q_getD hk]⟩
  · rintro ⟨k, hk, rfl⟩
    exact ⟨L[k], List.getElem_mem hk, by rw [q_getD hk]⟩
theorem part_same {w h : Int} {L : List Sq} (g : Geo w h L) {a b : Nat} (ha : a < L.length) (hb : b < L.length) (hab : ¬ a = b) : ptB L a b = mpB L a b := by
  have gz := (geo_Z.mp g).2.2.2.2
  obtain ⟨a1, a2, a3, a4, a5, a6, a7⟩ := geo_at g ha
  obtain ⟨b1, b2, b3, b4, b5, b6, b7⟩ := geo_at g hb
  have T : ∀ k, k < L.length → (ptT L (qX L a) (qY L a) (qX L b + qS L b) (qY L b + qS L b) k = true ↔ toR (qX L a).toInt (qY L a).toInt ((qX L b).toInt + (qS L b).toInt) ((qY L b).toInt + (qS L b).toInt) (toZ (L.getD k (0, 0, 0)))) := by
    intro k hk
    obtain ⟨c1, c2, c3, c4, c5, c6, c7⟩ := geo_at g hk
    unfold ptT toR
    simp only [Bool.and_eq_true, decide_eq_true_eq, Int32.le_iff_toInt_le, b6, b7, c6, c7]
    show _ ↔ (qX L k).toInt < _ ∧ _ < (qX L k).toInt + (qS L k).toInt ∧ (qY L k).toInt < _ ∧ _ < (qY L k).toInt + (qS L k).toInt
    omega
  have O : ∀ k, k < L.length → (ptO L (qX L a) (qY L a) (qX L b + qS L b) (qY L b + qS L b) k = true ↔ ¬ inR (qX L a).toInt (qY L a).toInt ((qX L b).toInt + (qS L b).toInt) ((qY L b).toInt + (qS L b).toInt) (toZ (L.getD k (0, 0, 0)))) := by
    intro k hk
    obtain ⟨c1, c2, c3, c4, c5, c6, c7⟩ := geo_at g hk
    unfold ptO inR
    simp only [Bool.or_eq_true, decide_eq_true_eq, Int32.le_iff_toInt_le, Int32.lt_iff_toInt_lt, b6, b7, c6, c7]
    show _ ↔ ¬ (_ ≤ (qX L k).toInt ∧ _ ≤ (qY L k).toInt ∧ (qX L k).toInt + (qS L k).toInt ≤ _ ∧ (qY L k).toInt + (qS L k).toInt ≤ _)
    omega
  have IB : ∀ k, inB L (qX L a).toInt (qY L a).toInt ((qX L b).toInt + (qS L b).toInt) ((qY L b).toInt + (qS L b).toInt) k = true ↔ inR (qX L a).toInt (qY L a).toInt ((qX L b).toInt + (qS L b).toInt) ((qY L b).toInt + (qS L b).toInt) (toZ (L.getD k (0, 0, 0))) := fun k => decide_eq_true_iff
  rw [Bool.eq_iff_iff]
  unfold ptB mpB
  simp only [Bool.and_eq_true, decide_eq_true_eq, Int32.le_iff_toInt_le, Int32.lt_iff_toInt_lt, a6, a7, b6, b7, beq_iff_eq]
  have all : (∀ k, k < L.length → toR (qX L a).toInt (qY L a).toInt ((qX L b).toInt + (qS L b).toInt) ((qY L b).toInt + (qS L b).toInt) (toZ (L.getD k (0, 0, 0))) → inR (qX L a).toInt (qY L a).toInt ((qX L b).toInt + (qS L b).toInt) ((qY L b).toInt + (qS L b).toInt) (toZ (L.getD k (0, 0, 0)))) →
      cntU (ptT L (qX L a) (qY L a) (qX L b + qS L b) (qY L b + qS L b)) L.length = cntU (inB L (qX L a).toInt (qY L a).toInt ((qX L b).toInt + (qS L b).toInt) ((qY L b).toInt + (qS L b).toInt)) L.length := by
    intro hi
    refine cntU_ext (fun k hk => ?_)
    rw [Bool.eq_iff_iff, T k hk, IB k]
    refine ⟨hi k hk, fun hin => ?_⟩
    obtain ⟨c1, c2, c3, c4, c5, c6, c7⟩ := geo_at g hk
    have hin' : _ ≤ (qX L k).toInt ∧ _ ≤ (qY L k).toInt ∧ (qX L k).toInt + (qS L k).toInt ≤ _ ∧ (qY L k).toInt + (qS L k).toInt ≤ _ := hin
    show (qX L k).toInt < _ ∧ _ < (qX L k).toInt + (qS L k).toInt ∧ (qY L k).toInt < _ ∧ _ < (qY L k).toInt + (qS L k).toInt
    omega
  constructor
  · rintro ⟨⟨⟨⟨⟨p1, p2⟩, p3⟩, p4⟩, p5⟩, p6⟩
    have hi : ∀ k, k < L.length → toR (qX L a).toInt (qY L a).toInt ((qX L b).toInt + (qS L b).toInt) ((qY L b).toInt + (qS L b).toInt) (toZ (L.getD k (0, 0, 0))) → inR (qX L a).toInt (qY L a).toInt ((qX L b).toInt + (qS L b).toInt) ((qY L b).toInt + (qS L b).toInt) (toZ (L.getD k (0, 0, 0))) := by
      intro k hk ht
      refine Classical.byContradiction (fun hn => ?_)
      have := cntU_0.mp p5 k hk
      rw [(T k hk).mpr ht, (O k hk).mpr hn] at this
      cases this
    have hc := all hi
    refine ⟨⟨by omega, by omega⟩, ?_, by omega, ?_⟩
    · have := cntU_two (p := inB L (qX L a).toInt (qY L a).toInt ((qX L b).toInt + (qS L b).toInt) ((qY L b).toInt + (qS L b).toInt)) ha hb hab (decide_eq_true (by omega)) (decide_eq_true (by omega))
      omega
    · rw [arI_L]
      exact part_A gz (by omega) (by omega) (by omega) (by omega) (by omega) (by omega) (fun q hq ht => by
        obtain ⟨k, hk, rfl⟩ := mem_Z.mp hq
        exact hi k hk ht)
  · rintro ⟨⟨p1, p2⟩, p3, p4, p5⟩
    rw [arI_L] at p5
    have hi := part_B gz p1 p2 p5
    have hi' : ∀ k, k < L.length → toR (qX L a).toInt (qY L a).toInt ((qX L b).toInt + (qS L b).toInt) ((qY L b).toInt + (qS L b).toInt) (toZ (L.getD k (0, 0, 0))) → inR (qX L a).toInt (qY L a).toInt ((qX L b).toInt + (qS L b).toInt) ((qY L b).toInt + (qS L b).toInt) (toZ (L.getD k (0, 0, 0))) := fun k hk => hi _ (mem_Z.mpr ⟨k, hk, rfl⟩)
    have ia : (qX L a).toInt ≤ (qX L a).toInt ∧ (qY L a).toInt ≤ (qY L a).toInt ∧ (qX L a).toInt + (qS L a).toInt ≤ (qX L b).toInt + (qS L b).toInt ∧ (qY L a).toInt + (qS L a).toInt ≤ (qY L b).toInt + (qS L b).toInt :=
      hi' a ha (show (qX L a).toInt < _ ∧ _ < (qX L a).toInt + (qS L a).toInt ∧ (qY L a).toInt < _ ∧ _ < (qY L a).toInt + (qS L a).toInt by omega)
    have ib : (qX L a).toInt ≤ (qX L b).toInt ∧ (qY L a).toInt ≤ (qY L b).toInt ∧ (qX L b).toInt + (qS L b).toInt ≤ (qX L b).toInt + (qS L b).toInt ∧ (qY L b).toInt + (qS L b).toInt ≤ (qY L b).toInt + (qS L b).toInt :=
      hi' b hb (show (qX L b).toInt < _ ∧ _ < (qX L b).toInt + (qS L b).toInt ∧ (qY L b).toInt < _ ∧ _ < (qY L b).toInt + (qS L b).toInt by omega)
    have hc := all hi'
    refine ⟨⟨⟨⟨⟨by omega, by omega⟩, by omega⟩, by omega⟩, cntU_0.mpr (fun k hk => ?_)⟩, by omega⟩
    by_cases et : ptT L (qX L a) (qY L a) (qX L b + qS L b) (qY L b + qS L b) k = true
    · by_cases eo : ptO L (qX L a) (qY L a) (qX L b + qS L b) (qY L b + qS L b) k = true
      · exact absurd (hi' k hk ((T k hk).mp et)) ((O k hk).mp eo)
      · rw [Bool.eq_false_iff.mpr eo, Bool.and_false]
    · rw [Bool.eq_false_iff.mpr et, Bool.false_and]
theorem sumU_ext {f g : Nat → Nat} : ∀ {n}, (∀ k, k < n → f k = g k) → sumU f n = sumU g n
  | 0, _ => rfl
  | n + 1, e => by
    unfold sumU
    rw [sumU_ext (fun k hk => e k (by omega)), e n (by omega)]
theorem parts_same {w h : Int} {L : List Sq} (g : Geo w h L) : partsN L = sumU (fun a => cntU (fun b => decide (¬ a = b) && mpB L a b) L.length) L.length := by
  unfold partsN
  refine sumU_ext (fun a ha => cntU_ext (fun b hb => ?_))
  by_cases e : a = b
  · rw [decide_eq_false (fun h => h e), Bool.false_and, Bool.false_and]
  · rw [part_same g ha hb e]
