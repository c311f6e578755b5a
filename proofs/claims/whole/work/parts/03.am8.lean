/-! exceptions: NoSuchElementException thrown by the class, caught by the law. ex_ctor follows the library's Stand.ctorThrowS (BundleOwnThrow), for a constructor whose call has another place in its pool (chainSX). -/
def am_junk (M : am_Mem) (j : Nat) : am_Mem := (am_n M + j, fun a => if am_n M < a ∧ a ≤ am_n M + j then 98 else am_K M a, am_L M, am_I M, am_J M, am_R M)
def am_bad : am_Mem := (0, fun _ => 0, fun _ => 0, fun _ _ => 0, fun _ _ => 0, fun _ _ => 0)
theorem am_bad_no {B : Nat} {H0 : Heap} {D : va_G} {cy : Nat → ClassId} {H : Heap} (h : am_H B H0 D cy am_bad H) : False := by
  have h1 : am_K am_bad 0 = 99 := h.2.2.2 0 (Or.inl rfl)
  have h2 : am_K am_bad 0 = 0 := rfl
  omega
theorem am_H.junk {B : Nat} {H0 : Heap} {D : va_G} {cy : Nat → ClassId} {M : am_Mem} {j : Nat} {H F : Heap} (h : am_H B H0 D cy M H) (z : F.size = H.size + j) (o : ∀ q : Nat, q < H.size → F[q]? = H[q]?) : am_H B H0 D cy (am_junk M j) F := by
  obtain ⟨h1, h2, h3, h4⟩ := h
  refine ⟨by rw [z, h1]; show _ = B + 1 + (am_n M + j); omega, fun q hq => by rw [o q (by omega)]; exact h2 q hq, fun a h5 h6 => ?_, fun a h5 => ?_⟩
  · have h6' : a ≤ am_n M + j := h6
    by_cases hb : a ≤ am_n M
    · have eK : am_K (am_junk M j) a = am_K M a := by
        show (if am_n M < a ∧ a ≤ am_n M + j then 98 else am_K M a) = _
        rw [if_neg (by omega)]
      exact am_at_same eK rfl rfl rfl rfl (o _ (by omega)) (h3 a h5 hb)
    · have eK : am_K (am_junk M j) a = 98 := by
        show (if am_n M < a ∧ a ≤ am_n M + j then 98 else am_K M a) = _
        rw [if_pos ⟨by omega, h6'⟩]
      unfold am_at
      rw [eK, if_neg (by decide)]
      exact Or.inl rfl
  · have h5' : a = 0 ∨ am_n M + j < a := h5
    show (if am_n M < a ∧ a ≤ am_n M + j then 98 else am_K M a) = 99
    rw [if_neg (by omega)]
    exact h4 a (by omega)
def ex_N : String := "java/util/NoSuchElementException"
def ex_up : List String := ["java/lang/RuntimeException", "java/lang/Exception"]
def ex_L : List Cond := Bundle.ownAtomsX RX11 151 ex_N 13 prog_29_method_4_code ex_up
theorem ex_good : ∀ w ∈ (ex_L.filter vx_no).filter goodWord, w ∈ lw_tbl := by decide +kernel
theorem ex_rest : ∀ w ∈ (ex_L.filter vx_no).filter (fun w => !goodWord w), w ∈ [Cond.castable ex_N ex_N, .declares (Bundle.initS "java/lang/RuntimeException"), .declares (Bundle.initS "java/lang/Exception"), .declares (Bundle.initS "java/lang/Throwable")] := by decide +kernel
theorem ex_dec : ∀ w ∈ [Cond.declares (Bundle.initS "java/lang/RuntimeException"), .declares (Bundle.initS "java/lang/Exception"), .declares (Bundle.initS "java/lang/Throwable")], w ∈ lw_tbl := by decide +kernel
theorem ex_words {B : Nat} {ad : Nat → Option Nat} {H0 : Heap} {s : State} {args : Array Value} (hT : am_T B ad H0 s) : ∀ w ∈ ex_L.filter vx_no, w.before args s = true := by
  refine vx_hat (B := [Cond.castable ex_N ex_N, .declares (Bundle.initS "java/lang/RuntimeException"), .declares (Bundle.initS "java/lang/Exception"), .declares (Bundle.initS "java/lang/Throwable")]) (fun w hw => hT.1 w ⟨ex_good w hw, (List.mem_filter.mp hw).2⟩ args) ex_rest ?_
  obtain ⟨-, -, -, -, -, h7, h8⟩ := hT.2.2.2.2
  refine vx_c (va_Nw.use rfl h7) (vx_c (va_Nw.use rfl (h8 _ (ex_dec _ (by decide)))) (vx_c (va_Nw.use rfl (h8 _ (ex_dec _ (by decide)))) (vx_c (va_Nw.use rfl (h8 _ (ex_dec _ (by decide)))) vx_n)))
