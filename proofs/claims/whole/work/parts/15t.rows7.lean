/-! PURE PART. rows that are unlike, the reference's side -/
section ROWS7
variable {N : CS} {S : CS} {n : Nat}
theorem r33 (rec : Int32 → Nat → Int32) (reo : Int32 → Nat → Prop) (x : Int32) (i : Nat) : ∀ (m j : Nat), j ≤ i → i < j + m → (reo (x + 0) (i + 1) → ol_X7_rows_33 reo x i m j) ∧ l_X7_rows_33 rec x i m j = rec (x + 0) (i + 1) := by
  intro m
  induction m with
  | zero => intro j h1 h2; omega
  | succ m ih =>
    intro j h1 h2
    rw [ol_X7_rows_33, l_X7_rows_33]
    by_cases q : j < i
    · obtain ⟨a, b⟩ := ih (j + 1) (by omega) (by omega)
      rw [if_pos q]
      exact ⟨fun z => ⟨fun _ => a z, fun k => absurd q k⟩, b⟩
    · rw [if_neg q]
      exact ⟨fun z => ⟨fun k => absurd k q, fun _ => z⟩, rfl⟩
theorem r33b (W : SH (S.2 0)) (rec : Int32 → Nat → Int32) (reo : Int32 → Nat → Prop) (x : Int32) {i : Nat} (hi : rP (S.2 0) i) : ∀ (m j : Nat), j ≤ i → i < j + m → (reo (x + (if rB (S.2 0) i = true then 1 else 0)) (i + 1) → ol_X7_rows_33b reo S x i m (if dup (S.2 0) i j = true then 0 else 1) j) ∧ l_X7_rows_33b rec S x i m (if dup (S.2 0) i j = true then 0 else 1) j = rec (x + (if rB (S.2 0) i = true then 1 else 0)) (i + 1) := by
  have i24 := hi.1
  have n10 : ¬ (1 : Int32) = 0 := by decide
  intro m
  induction m with
  | zero => intro j h1 h2; omega
  | succ m ih =>
    intro j h1 h2
    rw [ol_X7_rows_33b, l_X7_rows_33b]
    by_cases q : j < i
    · obtain ⟨a, b⟩ := ih (j + 1) (by omega) (by omega)
      rw [if_pos q]
      by_cases d : dup (S.2 0) i j = true
      · have d2 : dup (S.2 0) i (j + 1) = true := by rw [dup, d]; rfl
        rw [if_pos d2] at a b
        rw [if_pos d, if_pos rfl]
        exact ⟨fun z => ⟨fun _ => ⟨fun _ => a z, fun k => absurd rfl k⟩, fun k => absurd q k⟩, b⟩
      · have d0 : dup (S.2 0) i j = false := by simpa using d
        rw [if_neg d, if_neg n10, cl0 (show j < 24 by omega)]
        by_cases c : S.2 0 (13 * j) = 0
        · have d2 : ¬ dup (S.2 0) i (j + 1) = true := by
            rw [dup, d0]
            unfold pB
            simp [c]
          rw [if_neg d2] at a b
          rw [if_pos c]
          exact ⟨fun z => ⟨fun _ => ⟨fun k => absurd k n10, fun _ => ⟨vi0 (show j < 24 by omega), fun _ => a z, fun k => absurd c k⟩⟩, fun k => absurd q k⟩, b⟩
        · have c1 : S.2 0 (13 * j) = 1 := (W.2.1 j (by omega)).resolve_left c
          obtain ⟨oc, ec⟩ := cellm_n (S := S) (v := j) (u := i) (by omega) i24
          have z := mask_0 ec
          have pj : pB (S.2 0) j = true := (pB_if (by omega)).mpr c1
          rw [if_neg c]
          by_cases e : uc (S.2 0) j i = 0
          · have d2 : dup (S.2 0) i (j + 1) = true := by rw [dup, d0, pj]; simp [e]
            rw [if_pos d2] at a b
            rw [if_pos (z.mpr e)]
            exact ⟨fun y => ⟨fun _ => ⟨fun k => absurd k n10, fun _ => ⟨vi0 (show j < 24 by omega), fun k => absurd k c, fun _ => ⟨oc, fun _ => a y, fun k => absurd (z.mpr e) k⟩⟩⟩, fun k => absurd q k⟩, b⟩
          · have d2 : ¬ dup (S.2 0) i (j + 1) = true := by rw [dup, d0, pj]; simp [e]
            rw [if_neg d2] at a b
            rw [if_neg (fun k => e (z.mp k))]
            exact ⟨fun y => ⟨fun _ => ⟨fun k => absurd k n10, fun _ => ⟨vi0 (show j < 24 by omega), fun k => absurd k c, fun _ => ⟨oc, fun k => absurd (z.mp k) e, fun _ => a y⟩⟩⟩, fun k => absurd q k⟩, b⟩
    · have : j = i := by omega
      subst this
      rw [if_neg q]
      unfold ok_X7_rows_79b k_X7_rows_79b
      have pb := pB_iff.mpr hi
      by_cases d : dup (S.2 0) j j = true
      · rw [if_pos d, if_pos rfl, if_neg (show ¬ rB (S.2 0) j = true by unfold rB; simp [d])]
        exact ⟨fun z => ⟨fun k => absurd k q, fun _ => ⟨fun _ => z, fun k => absurd rfl k⟩⟩, rfl⟩
      · rw [if_neg d, if_neg n10, if_pos (show rB (S.2 0) j = true by unfold rB; simp [pb, d])]
        exact ⟨fun z => ⟨fun k => absurd k q, fun _ => ⟨fun k => absurd k n10, fun _ => z⟩⟩, rfl⟩
theorem rows7 (W : SH (S.2 0)) : o_X7_rows S ∧ f_X7_rows S = nI (cntB (rB (S.2 0)) 24) := by
  have key : ∀ (m i : Nat), i ≤ 24 → i + m = 25 → ol_X7_rows_4 S m (nI (cntB (rB (S.2 0)) i)) i ∧ l_X7_rows_4 S m (nI (cntB (rB (S.2 0)) i)) i = nI (cntB (rB (S.2 0)) 24) := by
    intro m
    induction m with
    | zero => intro i h1 h2; omega
    | succ m ih =>
      intro i h1 h2
      rw [ol_X7_rows_4, l_X7_rows_4]
      by_cases q : i < 24
      · obtain ⟨k1, k2⟩ := ih (i + 1) (by omega) (by omega)
        have e : nI (cntB (rB (S.2 0)) i) + (if rB (S.2 0) i = true then 1 else 0) = nI (cntB (rB (S.2 0)) (i + 1)) := by
          rw [cntB]
          by_cases c : rB (S.2 0) i = true
          · rw [if_pos c, if_pos c]; exact nI_1 _
          · rw [if_neg c, if_neg c]; exact nI_add _ 0
        rw [if_pos q, cl0 q]
        by_cases c : S.2 0 (13 * i) = 1
        · obtain ⟨a, b⟩ := r33b W (fun x1_4 i2_4 => l_X7_rows_4 S m x1_4 i2_4) (fun x1_4 i2_4 => ol_X7_rows_4 S m x1_4 i2_4) (nI (cntB (rB (S.2 0)) i)) (show rP (S.2 0) i from ⟨q, c⟩) (i + 1 - 0) 0 (Nat.zero_le _) (by omega)
          rw [if_neg (show ¬ dup (S.2 0) i 0 = true from Bool.false_ne_true), e] at a b
          rw [if_pos c]
          exact ⟨⟨fun _ => ⟨vi0 q, fun _ => a k1, fun k => absurd c k⟩, fun k => absurd q k⟩, b.trans k2⟩
        · obtain ⟨a, b⟩ := r33 (fun x1_4 i2_4 => l_X7_rows_4 S m x1_4 i2_4) (fun x1_4 i2_4 => ol_X7_rows_4 S m x1_4 i2_4) (nI (cntB (rB (S.2 0)) i)) i (i + 1 - 0) 0 (Nat.zero_le _) (by omega)
          have n1 : ¬ rB (S.2 0) i = true := fun k => c ((pB_if q).mp (Bool.and_eq_true_iff.mp k).1)
          rw [if_neg n1] at e
          rw [e] at a b
          rw [if_neg c]
          exact ⟨⟨fun _ => ⟨vi0 q, fun k => absurd k c, fun _ => a k1⟩, fun k => absurd q k⟩, b.trans k2⟩
      · have : i = 24 := by omega
        subst this
        rw [if_neg q]
        exact ⟨⟨fun k => absurd k q, fun _ => trivial⟩, rfl⟩
  exact key 25 0 (by decide) (by decide)
end ROWS7
