theorem qK_wI (M : am_Mem) (a i : Nat) (v : Int32) : am_K (am_wI M a i v) = am_K M := by
  have h := rK_wI M a i v
  exact h
theorem qL_wI (M : am_Mem) (a i : Nat) (v : Int32) : am_L (am_wI M a i v) = am_L M := by
  have h := rL_wI M a i v
  exact h
theorem qR_wI (M : am_Mem) (a i : Nat) (v : Int32) : am_R (am_wI M a i v) = am_R M := by
  have h := rR_wI M a i v
  exact h
theorem qJ_wI (M : am_Mem) (a i : Nat) (v : Int32) : am_J (am_wI M a i v) = am_J M := by
  have h := rJ_wI M a i v
  exact h
theorem qn_wI (M : am_Mem) (a i : Nat) (v : Int32) : am_n (am_wI M a i v) = am_n M := by
  have h := rn_wI M a i v
  exact h
theorem qK_wJ (M : am_Mem) (a i : Nat) (v : Int64) : am_K (am_wJ M a i v) = am_K M := by
  have h := rK_wJ M a i v
  exact h
theorem qL_wJ (M : am_Mem) (a i : Nat) (v : Int64) : am_L (am_wJ M a i v) = am_L M := by
  have h := rL_wJ M a i v
  exact h
theorem qR_wJ (M : am_Mem) (a i : Nat) (v : Int64) : am_R (am_wJ M a i v) = am_R M := by
  have h := rR_wJ M a i v
  exact h
theorem qI_wJ (M : am_Mem) (a i : Nat) (v : Int64) : am_I (am_wJ M a i v) = am_I M := by
  have h := rI_wJ M a i v
  exact h
theorem qn_wJ (M : am_Mem) (a i : Nat) (v : Int64) : am_n (am_wJ M a i v) = am_n M := by
  have h := rn_wJ M a i v
  exact h
theorem qK_wR (M : am_Mem) (a i : Nat) (v : Nat) : am_K (am_wR M a i v) = am_K M := by
  have h := rK_wR M a i v
  exact h
theorem qL_wR (M : am_Mem) (a i : Nat) (v : Nat) : am_L (am_wR M a i v) = am_L M := by
  have h := rL_wR M a i v
  exact h
theorem qI_wR (M : am_Mem) (a i : Nat) (v : Nat) : am_I (am_wR M a i v) = am_I M := by
  have h := rI_wR M a i v
  exact h
theorem qJ_wR (M : am_Mem) (a i : Nat) (v : Nat) : am_J (am_wR M a i v) = am_J M := by
  have h := rJ_wR M a i v
  exact h
theorem qn_wR (M : am_Mem) (a i : Nat) (v : Nat) : am_n (am_wR M a i v) = am_n M := by
  have h := rn_wR M a i v
  exact h
