/-! PURE PART. what holds between the class and the reference -/
def BN (n : Nat) (s : Nat → Int32) : Prop := ∀ v, rP s v → ∃ k, k ≤ 50 * n ∧ s (13 * v + 4) = nI k
/-- the settings are in their ranges -/
def G3 (s : Nat → Int32) : Prop := (s 312 = 0 ∨ s 312 = 1 ∨ s 312 = 2) ∧ ∃ m, 1 ≤ m ∧ m ≤ 30 ∧ s 313 = nI m
def FL (s : Nat → Int32) : Prop := (∀ v, 0 < v → rP s v → s (13 * v + 2) = 0 ∨ s (13 * v + 2) = 1) ∧ (∀ v, rP s v → ∃ w, rR s w ∧ rT s w = rT s v) ∧ (∀ w w', rR s w → rR s w' → rT s w = rT s w' → w = w') ∧ G3 s ∧ s 1 = -5
def OKS (N : CS) (s : Nat → Int32) (n : Nat) : Prop := SH s ∧ FL s ∧ RS N s ∧ BN n s
theorem OKS.mono {N : CS} {s : Nat → Int32} {n m : Nat} (h : OKS N s n) (hm : n ≤ m) : OKS N s m := ⟨h.1, h.2.1, h.2.2.1, fun v hv => by
  obtain ⟨k, h1, h2⟩ := h.2.2.2 v hv
  exact ⟨k, Nat.le_trans h1 (Nat.mul_le_mul_left 50 hm), h2⟩⟩
