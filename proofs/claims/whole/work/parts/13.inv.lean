/-- a square: its left, its top, its size -/
abbrev Sq : Type := Int32 × Int32 × Int32
/-- a rectangle: fails, wide, high, its squares -/
abbrev Rc : Type := Int32 × Int32 × Int32 × List Sq
/-- a line: depth, left, right, flow -/
abbrev Ln : Type := Int32 × Int32 × Int32 × Int32
def qX (L : List Sq) (k : Nat) : Int32 := (L.getD k (0, 0, 0)).1
def qY (L : List Sq) (k : Nat) : Int32 := (L.getD k (0, 0, 0)).2.1
def qS (L : List Sq) (k : Nat) : Int32 := (L.getD k (0, 0, 0)).2.2
def cntU (p : Nat → Bool) : Nat → Nat
  | 0 => 0
  | n + 1 => cntU p n + (if p n = true then 1 else 0)
def sumU (f : Nat → Nat) : Nat → Nat
  | 0 => 0
  | n + 1 => sumU f n + f n
theorem cntU_le (p : Nat → Bool) : ∀ n, cntU p n ≤ n
  | 0 => Nat.le_refl _
  | n + 1 => by
    have := cntU_le p n
    unfold cntU
    split <;> omega
theorem sumU_le (f : Nat → Nat) (c : Nat) (h : ∀ n, f n ≤ c) : ∀ n, sumU f n ≤ n * c
  | 0 => Nat.zero_le _
  | n + 1 => by
    have := sumU_le f c h n
    have := h n
    unfold sumU
    rw [Nat.succ_mul]
    omega
def ptT (L : List Sq) (x y ex ey : Int32) (k : Nat) : Bool := decide (¬ ex ≤ qX L k) && decide (¬ qX L k + qS L k ≤ x) && decide (¬ ey ≤ qY L k) && decide (¬ qY L k + qS L k ≤ y)
def ptO (L : List Sq) (x y ex ey : Int32) (k : Nat) : Bool := decide (qX L k < x) || decide (ex < qX L k + qS L k) || decide (qY L k < y) || decide (¬ qY L k + qS L k ≤ ey)
def ptB (L : List Sq) (a b : Nat) : Bool :=
  decide (¬ qX L b + qS L b < qX L a + qS L a) && decide (¬ qY L b + qS L b < qY L a + qS L a) && decide (¬ qX L b < qX L a) && decide (qY L a ≤ qY L b) &&
  (cntU (fun k => ptT L (qX L a) (qY L a) (qX L b + qS L b) (qY L b + qS L b) k && ptO L (qX L a) (qY L a) (qX L b + qS L b) (qY L b + qS L b) k) L.length == 0) &&
  decide (cntU (ptT L (qX L a) (qY L a) (qX L b + qS L b) (qY L b + qS L b)) L.length < L.length)
/-- how many parts a rectangle has -/
def partsN (L : List Sq) : Nat := sumU (fun a => cntU (fun b => decide (¬ a = b) && ptB L a b) L.length) L.length
theorem partsN_le (L : List Sq) (h : L.length ≤ 40) : partsN L ≤ 1600 := by
  have h1 := sumU_le (fun a => cntU (fun b => decide (¬ a = b) && ptB L a b) L.length) L.length (fun a => cntU_le _ _) L.length
  have h2 : L.length * L.length ≤ 40 * 40 := Nat.mul_le_mul h h
  unfold partsN
  omega
def lnGt (a b : Ln) : Bool := decide (b.1 < a.1) || (decide (a.1 = b.1) && decide (b.2.1 < a.2.1))
def lnIns (r : Ln) : List Ln → List Ln
  | [] => [r]
  | a :: l => if lnGt a r = true then r :: a :: l else a :: lnIns r l
def lnMrg (c : Ln) : List Ln → List Ln
  | [] => [c]
  | b :: l => if b.1 = c.1 ∧ ¬ c.2.2.1 < b.2.1 then lnMrg (c.1, c.2.1, (if c.2.2.1 < b.2.2.1 then b.2.2.1 else c.2.2.1), c.2.2.2 + b.2.2.2) l else c :: lnMrg b l
def lnTop (q : Sq) : Ln := (q.2.1, q.1, q.1 + q.2.2, q.2.2)
def lnLow (q : Sq) : Ln := (q.2.1 + q.2.2, q.1, q.1 + q.2.2, -q.2.2)
def lnAll (L : List Sq) : List Ln := (L.map lnTop ++ L.map lnLow).foldl (fun l r => lnIns r l) []
/-- the lines of a rectangle -/
def lnS (L : List Sq) : List Ln := match lnAll L with
  | [] => []
  | a :: l => lnMrg a l
/-- two squares that don't lie over each other -/
def dsj (p q : Sq) : Prop := p.1.toInt + p.2.2.toInt ≤ q.1.toInt ∨ q.1.toInt + q.2.2.toInt ≤ p.1.toInt ∨ p.2.1.toInt + p.2.2.toInt ≤ q.2.1.toInt ∨ q.2.1.toInt + q.2.2.toInt ≤ p.2.1.toInt
def sqIn (w h : Int) (q : Sq) : Prop := 0 ≤ q.1.toInt ∧ 0 ≤ q.2.1.toInt ∧ 1 ≤ q.2.2.toInt ∧ q.1.toInt + q.2.2.toInt ≤ w ∧ q.2.1.toInt + q.2.2.toInt ≤ h
def areaOf (L : List Sq) : Int := (L.map (fun q => q.2.2.toInt * q.2.2.toInt)).sum
/-- squares that make a rectangle up -/
def Geo (w h : Int) (L : List Sq) : Prop := 1 ≤ L.length ∧ L.length ≤ 40 ∧ w ≤ 1000000000 ∧ h ≤ 1000000000 ∧ (∀ q ∈ L, sqIn w h q) ∧ L.Pairwise dsj ∧ areaOf L = w * h ∧
  ∀ g : Int, (∀ q ∈ L, g ∣ q.2.2.toInt) → (∀ q ∈ L, g ∣ q.1.toInt ∧ g ∣ q.2.1.toInt) ∧ g ∣ w ∧ g ∣ h
def Good (q : Rc) : Prop := (q.1 = 1 ∧ q.2.1 = 0 ∧ q.2.2.1 = 0 ∧ q.2.2.2 = []) ∨ (q.1 = 0 ∧ Geo q.2.1.toInt q.2.2.1.toInt q.2.2.2)
theorem good_len {q : Rc} (h : Good q) : q.2.2.2.length ≤ 40 := by
  rcases h with ⟨_, _, _, h⟩ | ⟨_, h⟩
  · rw [h]; exact Nat.zero_le _
  · exact h.2.1
theorem good_01 {q : Rc} (h : Good q) : q.1 = 0 ∨ q.1 = 1 := by
  rcases h with h | h
  · exact Or.inr h.1
  · exact Or.inl h.1
/-- an int array's thing made later than the first ones -/
def ArR (M : am_Mem) (a n : Nat) : Prop := 141 < a ∧ a ≤ am_n M ∧ am_K M a = 14 ∧ am_L M a = n
/-- the class's thing t tells the rectangle q -/
def TilR (M : am_Mem) (t : Nat) (q : Rc) : Prop := (141 < t ∧ t ≤ am_n M ∧ am_K M t = 10) ∧ (am_I M t 1 = q.1 ∧ am_I M t 4 = nI q.2.2.2.length ∧ am_I M t 5 = q.2.1 ∧ am_I M t 6 = q.2.2.1) ∧
  ArR M (am_R M t 7) q.2.2.2.length ∧ ArR M (am_R M t 8) q.2.2.2.length ∧ ArR M (am_R M t 9) q.2.2.2.length ∧
  (∀ k, k < q.2.2.2.length → am_I M (am_R M t 7) k = qX q.2.2.2 k) ∧ (∀ k, k < q.2.2.2.length → am_I M (am_R M t 8) k = qY q.2.2.2 k) ∧ ∀ k, k < q.2.2.2.length → am_I M (am_R M t 9) k = qS q.2.2.2 k
/-- the reference's row tells the rectangle q -/
def RowR (M : am_Mem) (a o : Nat) (q : Rc) : Prop := am_I M a o = nI q.2.2.2.length ∧ am_I M a (o + 1) = q.2.1 ∧ am_I M a (o + 2) = q.2.2.1 ∧ am_I M a (o + 3) = q.1 ∧
  (∀ k, k < q.2.2.2.length → am_I M a (o + (4 + k)) = qX q.2.2.2 k) ∧ (∀ k, k < q.2.2.2.length → am_I M a (o + (44 + k)) = qY q.2.2.2 k) ∧ ∀ k, k < q.2.2.2.length → am_I M a (o + (84 + k)) = qS q.2.2.2 k
/-- a net of the class, and the reference's numbers of it -/
def NetR (M : am_Mem) (u i : Nat) : Prop := (141 < u ∧ u ≤ am_n M ∧ am_K M u = 3) ∧ am_J M u 4 = am_J M 127 i ∧ ¬ am_J M u 4 < 0 ∧ am_I M u 7 = am_I M 126 i ∧
  ∃ p m : Nat, p ≤ 9 ∧ m ≤ 14 ∧ am_I M u 0 = nI p ∧ am_I M u 1 = nI m ∧ am_I M 122 i = nI p ∧ am_I M 123 i = nI m ∧ ArR M (am_R M u 2) p ∧ ArR M (am_R M u 3) m ∧
  (¬ am_J M u 4 = 0 → (∀ k, k < p → am_I M (am_R M u 2) k = (am_J M 128 (9 * i + k)).toInt32) ∧ ∀ k, k < m → am_I M (am_R M u 3) k = (am_J M 129 (14 * i + k)).toInt32)
def ToldR (M : am_Mem) (t i : Nat) : Prop := am_I M t 0 = am_I M 121 i ∧ ((am_I M t 0 = 0 ∧ am_I M t 2 = am_I M 125 i ∧ am_R M t 3 = 0) ∨ (am_I M t 0 = 1 ∧ NetR M (am_R M t 3) i))
def CchR (M : am_Mem) (t : Nat) (q : Rc) : Prop := am_I M t 10 = -1 ∨ am_I M t 10 = nI (partsN q.2.2.2)
def mA (j : Nat) : Nat := if j = 0 then 117 else 118
def mO (j : Nat) : Nat := 1488 * (j - 1)
/-- one rectangle of a shelf, and the reference's -/
def RecR (M : am_Mem) (j told i : Nat) (q : Rc) : Prop := TilR M (am_R M (105 + 2 * j) i) q ∧ RowR M (mA j) (mO j + 124 * i) q ∧ Good q ∧ CchR M (am_R M (105 + 2 * j) i) q ∧
  (i < told → ToldR M (am_R M (105 + 2 * j) i) i) ∧ (told ≤ i → am_I M (am_R M (105 + 2 * j) i) 0 = 2 ∧ am_R M (am_R M (105 + 2 * j) i) 3 = 0)
def ShR (M : am_Mem) (j told m : Nat) (D : Nat → Rc) : Prop := m ≤ 12 ∧ told ≤ m ∧ am_I M (104 + 2 * j) 1 = nI m ∧ ∀ i, i < m → RecR M j told i (D i)
def KepR (M : am_Mem) (j told : Nat) : Prop := (am_I M (104 + 2 * j) 2 = 0 ∧ am_I M 120 (j - 1) = 0) ∨ (am_I M (104 + 2 * j) 2 = 1 ∧ am_I M 120 (j - 1) = 1 ∧ ∃ (m : Nat) (D : Nat → Rc), ShR M j told m D ∧ am_I M 119 (j - 1) = nI m)
def TapR (M : am_Mem) : Prop := ∃ f : Nat, f ≤ 600 ∧ am_I M 2 7 = nI f ∧ am_I M 110 2 = nI f ∧ ∀ i, i < f → am_I M 3 i = am_I M 111 i ∧ am_I M 3 i = (am_I M 3 i).toInt8.toInt32
def PagR (M : am_Mem) : Prop := ∃ f : Nat, f ≤ 480 ∧ am_I M 102 1 = nI f ∧ am_I M 110 42 = nI f ∧ ∀ i, i < f → am_I M 103 i = am_I M 135 i
def LtR (M : am_Mem) (l : List Ln) : Prop := am_I M 97 4 = nI l.length ∧ ∀ k (h : k < l.length), am_I M 98 k = (l[k]).1 ∧ am_I M 99 k = (l[k]).2.1 ∧ am_I M 100 k = (l[k]).2.2.1 ∧ am_I M 101 k = (l[k]).2.2.2
def LinR (M : am_Mem) : Prop := ¬ am_R M 97 5 = 0 → ∃ q : Rc, TilR M (am_R M 97 5) q ∧ LtR M (lnS q.2.2.2)
def UndR (M : am_Mem) (told m : Nat) : Prop := ∃ u : Nat, told + u ≤ m ∧ am_I M 1 11 = nI u ∧ am_I M 110 19 = nI u
/-- what holds between the class's things and the reference's -/
def InvAt (M : am_Mem) (told m : Nat) (D : Nat → Rc) : Prop := Shp M ∧ TapR M ∧ PagR M ∧ LinR M ∧ UndR M told m ∧ told ≤ 6 ∧ am_I M 110 40 = nI told ∧ am_I M 110 18 = nI m ∧ ShR M 0 told m D ∧ KepR M 1 told ∧ KepR M 2 told
def Inv (M : am_Mem) : Prop := ∃ (told m : Nat) (D : Nat → Rc), InvAt M told m D
