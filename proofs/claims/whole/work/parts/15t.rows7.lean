/-! PURE PART. rows that are unlike, the reference's side -/
section ROWS7
variable {N : CS} {S : CS} {n : Nat}
theorem r33 (rec : Int32 → Nat → Int32) (reo : Int32 → Nat → Prop) (x : Int32) (i : Nat) : ∀ (m j : Nat), j ≤ i → i < j + m → (reo (x + 0) (i + 1) → ol_X7_rows_33 reo x i m j) ∧ l_X7_rows_33 rec x i m j = rec (x + 0) (i + 1) := by
  intro m
  induction m with
  | zero => intro j h1 h2; omega
  | succ m ih =>
    intro j h1 h2
    rw [ol_X7_rows_33, l_X7_rows_33]
    by_cases q : j < i
    · obtain ⟨a, b⟩ := ih (j + 1) (by omega) (by omega)
      rw [if_pos q]
      exact ⟨fun z => ⟨fun _ => a z, fun k => absurd q k⟩, b⟩
    · rw [if_neg q]
      exact ⟨fun z => ⟨fun k => absurd k q, fun _ => z⟩, rfl⟩
end ROWS7
