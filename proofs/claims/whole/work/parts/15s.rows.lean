/-! PURE PART. rows that are unlike -/
/-- some present one below i has the same cells -/
def dup (s : Nat → Int32) (i : Nat) : Nat → Bool
  | 0 => false
  | j + 1 => dup s i j || (pB s j && decide (uc s j i = 0))
def rB (s : Nat → Int32) (i : Nat) : Bool := pB s i && !dup s i i
theorem mask_0 {x : Int32} {p : Nat → Bool} (h : ∀ j, j < 32 → bt x j = (decide (j < 8) && p j)) : x = 0 ↔ cntB p 8 = 0 := by
  constructor
  · intro z
    have : cntB p 8 = cntB (fun _ => false) 8 := cntB_congr (fun i hi => by
      have := h i (by omega)
      rw [z, bt_0] at this
      simpa [hi] using this.symm)
    rw [this]
    decide
  · intro z
    refine bt_ext (fun j hj => ?_)
    rw [h j hj, bt_0]
    by_cases c : j < 8
    · cases q : p j with
      | false => simp
      | true =>
        have h1 : cntB (fun _ => false) 8 < cntB p 8 := cntB_lt c (fun i _ h => by cases h) rfl q
        omega
    · simp [c]
section ROWS
variable {N : CS} {S : CS} {n : Nat}
theorem below_n (R : RS N (S.2 0)) {i : Nat} (hi : rP (S.2 0) i) : f_X5_hasRowBelow N (nI i) = dup (S.2 0) i i := by
  have i24 := hi.1
  have key : ∀ (m j : Nat), j ≤ i → 24 < j + m → dup (S.2 0) i j = false → l_X5_hasRowBelow_2 N (nI i) m j = dup (S.2 0) i i := by
    intro m
    induction m with
    | zero => intro j h1 h2; omega
    | succ m ih =>
      intro j h1 h2 h3
      have y : nI j < nI i ↔ j < i := nI_ltI (by omega) (by omega)
      rw [l_X5_hasRowBelow_2]
      by_cases q : j < i
      · rw [if_pos (y.mpr q), if_pos (show j < 24 by omega), has_n R (show j < 24 by omega)]
        have next : (pB (S.2 0) j && decide (uc (S.2 0) j i = 0)) = false → dup (S.2 0) i (j + 1) = false := fun k => by
          rw [dup, h3, k]; rfl
        by_cases c : pB (S.2 0) j = true
        · rw [if_pos c]
          have z := mask_0 (unl_n R (pB_iff.mp c) hi)
          by_cases d : uc (S.2 0) j i = 0
          · rw [if_pos (z.mpr d)]
            have up : ∀ k, j + 1 ≤ k → dup (S.2 0) i k = true := by
              intro k
              induction k with
              | zero => intro h; omega
              | succ k ihk =>
                intro h
                rw [dup]
                by_cases w : k = j
                · subst w
                  simp [c, d]
                · rw [ihk (by omega)]; rfl
            exact (up i q).symm
          · rw [if_neg (fun k => d (z.mp k))]
            exact ih (j + 1) (by omega) (by omega) (next (by simp [d]))
        · rw [if_neg c]
          exact ih (j + 1) (by omega) (by omega) (next (by simp [c]))
      · rw [if_neg (fun k => q (y.mp k))]
        have : j = i := by omega
        subst this
        exact h3.symm
  exact key 25 0 (Nat.zero_le _) (by decide) rfl
theorem rows6 (R : RS N (S.2 0)) : f_X5_unlikeRows N = nI (cntB (rB (S.2 0)) 24) := by
  have key : ∀ (m i : Nat), i ≤ 24 → i + m = 25 → l_X5_unlikeRows_4 N m (cntB (rB (S.2 0)) i) i = nI (cntB (rB (S.2 0)) 24) := by
    intro m
    induction m with
    | zero => intro i h1 h2; omega
    | succ m ih =>
      intro i h1 h2
      rw [l_X5_unlikeRows_4]
      by_cases q : i < 24
      · have k := ih (i + 1) (by omega) (by omega)
        rw [cntB] at k
        rw [if_pos q, has_n R q]
        by_cases c : pB (S.2 0) i = true
        · rw [if_pos c, below_n R (pB_iff.mp c)]
          by_cases d : dup (S.2 0) i i = true
          · rw [if_neg (show ¬ rB (S.2 0) i = true by unfold rB; simp [d])] at k
            rw [if_pos d]; exact k
          · rw [if_pos (show rB (S.2 0) i = true by unfold rB; simp [c, d])] at k
            rw [if_neg d]; exact k
        · rw [if_neg (show ¬ rB (S.2 0) i = true from fun k => c (Bool.and_eq_true_iff.mp k).1)] at k
          rw [if_neg c]; exact k
      · have : i = 24 := by omega
        subst this
        rw [if_neg q]
        rfl
  exact key 25 0 (by decide) (by decide)
end ROWS
