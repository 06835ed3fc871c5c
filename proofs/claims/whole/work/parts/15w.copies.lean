/-! PURE PART. copies of states -/
/-- two states that say the same -/
def SAME (N N' : CS) : Prop := (∀ j, j = 0 ∨ j = 1 ∨ j = 2 ∨ (7 ≤ j ∧ j ≤ 12) → N'.1 j = N.1 j) ∧ (∀ i, i < 24 → N'.2 3 i = N.2 3 i ∧ N'.2 4 i = N.2 4 i ∧ N'.2 5 i = N.2 5 i) ∧ ∀ i, i < 192 → N'.2 6 i = N.2 6 i
theorem RS.same {N N' : CS} {s : Nat → Int32} (h : RS N s) (e : SAME N N') (W : ∀ v, rP s v → v < 24 := fun _ h => h.1) : RS N' s := by
  obtain ⟨e1, e2, e3⟩ := e
  obtain ⟨h1, h2, h3, h4, h5, h6, h7⟩ := h
  refine ⟨fun i hi => by rw [e1 0 (Or.inl rfl)]; exact h1 i hi, fun i hi => by rw [e1 1 (Or.inr (Or.inl rfl))]; exact h2 i hi, fun i hi => by rw [e1 2 (Or.inr (Or.inr (Or.inl rfl)))]; exact h3 i hi, ⟨by rw [(e2 0 (by decide)).1]; exact h4.1, by rw [(e2 0 (by decide)).2.1]; exact h4.2⟩, fun v p hv => ?_, fun v hv => ?_, fun j a b => by rw [e1 j (Or.inr (Or.inr (Or.inr ⟨a, b⟩)))]; exact h7 j a b⟩
  · rw [(e2 v hv.1).1, (e2 v hv.1).2.1]
    exact h5 v p hv
  · have v24 := hv.1
    rw [(e2 v v24).2.2]
    exact ⟨(h6 v hv).1, fun c hc => by rw [e3 _ (by omega)]; exact (h6 v hv).2 c hc⟩
theorem copy_same (S T : CS) : SAME T (f_X5_copyFrom S T) := by
  have c : ∀ (n : Nat) (f g : Nat → Int32) (i : Nat), i < n → f_X3_copy n f n g i = f i := by
    intro n f g i hi
    unfold f_X3_copy
    rw [if_neg (Nat.lt_irrefl n), pk_cpy_in (Nat.zero_le _) (by omega)]
    congr 1
    omega
  refine ⟨fun j hj => ?_, fun i hi => ⟨?_, ?_, ?_⟩, fun i hi => ?_⟩
  · rcases hj with rfl | rfl | rfl | ⟨a, b⟩
    · rfl
    · rfl
    · rfl
    · rcases (show j = 7 ∨ j = 8 ∨ j = 9 ∨ j = 10 ∨ j = 11 ∨ j = 12 by omega) with rfl | rfl | rfl | rfl | rfl | rfl <;> rfl
  · exact c 24 (T.2 3) _ i hi
  · exact c 24 (T.2 4) _ i hi
  · exact c 24 (T.2 5) _ i hi
  · exact c 192 (T.2 6) _ i hi
theorem OKS.copy {T : CS} {s : Nat → Int32} {n : Nat} (h : OKS T s n) (S : CS) : OKS (f_X5_copyFrom S T) s n := ⟨h.1, h.2.1, h.2.2.1.same (copy_same S T), h.2.2.2⟩
