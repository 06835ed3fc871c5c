/-! PURE PART. the reference's rows put aside, put back, kept -/
/-- Z is S but for row k, which is below 318 as f says -/
def FILL (S : CS) (k : Nat) (f : Nat → Int32) (Z : CS) : Prop := Z.1 = S.1 ∧ (∀ j, j ≠ k → Z.2 j = S.2 j) ∧ ∀ j, j < 318 → Z.2 k j = f j
section FIL
variable {S : CS}
theorem aside_n (S : CS) : FILL S 1 (S.2 0) (f_X7_putAside S) := by
  have key : ∀ (m i : Nat) (Z : CS), i ≤ 318 → i + m = 319 → Z.1 = S.1 → (∀ j, j ≠ 1 → Z.2 j = S.2 j) → (∀ j, j < i → Z.2 1 j = S.2 0 j) → FILL S 1 (S.2 0) (l_X7_putAside_2 m Z i) := by
    intro m
    induction m with
    | zero => intro i Z h1 h2; omega
    | succ m ih =>
      intro i Z h1 h2 h3 h4 h5
      rw [l_X7_putAside_2]
      simp only [bind1]
      by_cases q : i < 318
      · rw [if_pos q]
        refine ih (i + 1) _ (by omega) (by omega) h3 (fun j hj => (setF_n Z _ hj).trans (h4 j hj)) (fun j hj => ?_)
        rw [setF_s]
        by_cases z : j = i
        · subst z
          rw [pk_us, h4 0 (by decide)]
        · rw [pk_un z]
          exact h5 j (by omega)
      · rw [if_neg q]
        exact ⟨h3, h4, fun j hj => h5 j (by omega)⟩
  exact key 319 0 S (by decide) (by decide) rfl (fun _ _ => rfl) (fun j hj => absurd hj (Nat.not_lt_zero _))
theorem back_n (S : CS) : FILL S 0 (S.2 1) (f_X7_putBack S) := by
  have key : ∀ (m i : Nat) (Z : CS), i ≤ 318 → i + m = 319 → Z.1 = S.1 → (∀ j, j ≠ 0 → Z.2 j = S.2 j) → (∀ j, j < i → Z.2 0 j = S.2 1 j) → FILL S 0 (S.2 1) (l_X7_putBack_2 m Z i) := by
    intro m
    induction m with
    | zero => intro i Z h1 h2; omega
    | succ m ih =>
      intro i Z h1 h2 h3 h4 h5
      rw [l_X7_putBack_2]
      simp only [bind1]
      by_cases q : i < 318
      · rw [if_pos q]
        refine ih (i + 1) _ (by omega) (by omega) h3 (fun j hj => (setF_n Z _ hj).trans (h4 j hj)) (fun j hj => ?_)
        rw [setF_s]
        by_cases z : j = i
        · subst z
          rw [pk_us, h4 1 (by decide)]
        · rw [pk_un z]
          exact h5 j (by omega)
      · rw [if_neg q]
        exact ⟨h3, h4, fun j hj => h5 j (by omega)⟩
  exact key 319 0 S (by decide) (by decide) rfl (fun _ _ => rfl) (fun j hj => absurd hj (Nat.not_lt_zero _))
end FIL
