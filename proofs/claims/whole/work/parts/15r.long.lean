/-! PURE PART. the longest way -/
def MXP (s : Nat → Int32) (p : Nat → Nat → Prop) (r : Nat) : Prop := r ≤ 23 ∧ (∀ w u, rR s w → inT s w u → p w u → yD s u w ≤ r) ∧ (r = 0 ∨ ∃ w u, rR s w ∧ inT s w u ∧ p w u ∧ yD s u w = r)
theorem MXP.uniq {s : Nat → Int32} {p q : Nat → Nat → Prop} (hp : ∀ w u, rR s w → inT s w u → (p w u ↔ q w u)) {a b : Nat} (h1 : MXP s p a) (h2 : MXP s q b) : a = b := by
  have k1 : a ≤ b := by
    rcases h1.2.2 with z | ⟨w, u, x1, x2, x3, x4⟩
    · omega
    · have := h2.2.1 w u x1 x2 ((hp w u x1 x2).mp x3); omega
  have k2 : b ≤ a := by
    rcases h2.2.2 with z | ⟨w, u, x1, x2, x3, x4⟩
    · omega
    · have := h1.2.1 w u x1 x2 ((hp w u x1 x2).mpr x3); omega
  omega
theorem imax_n {a b : Nat} (ha : a < 2 ^ 31) (hb : b < 2 ^ 31) : imax (nI a) (nI b) = nI (if a < b then b else a) := by
  unfold imax
  by_cases c : a < b
  · rw [if_pos c, if_pos ((nI_ltI ha hb).mpr c)]
  · rw [if_neg c, if_neg (fun z => c ((nI_ltI ha hb).mp z))]
section LONG
variable {N : CS} {S : CS} {n : Nat}
theorem far_n {s : Nat → Int32} (W : SH s) {v : Nat} (hv : rP s v) {E : CS} (hE : SPR s v E) : ∃ r, r ≤ 23 ∧ f_X2_farthest E = nI r ∧ (∀ u, inT s v u → yD s u v ≤ r) ∧ (r = 0 ∨ ∃ u, inT s v u ∧ yD s u v = r) := by
  have key : ∀ (m i r : Nat), i ≤ 24 → i + m = 25 → r ≤ 23 → (∀ u, u < i → inT s v u → yD s u v ≤ r) → (r = 0 ∨ ∃ u, inT s v u ∧ yD s u v = r) → ∃ r', r' ≤ 23 ∧ l_X2_farthest_4 E m (nI r) i = nI r' ∧ (∀ u, inT s v u → yD s u v ≤ r') ∧ (r' = 0 ∨ ∃ u, inT s v u ∧ yD s u v = r') := by
    intro m
    induction m with
    | zero => intro i r h1 h2; omega
    | succ m ih =>
      intro i r h1 h2 h3 h4 h5
      rw [l_X2_farthest_4]
      by_cases q : i < 24
      · rw [if_pos q, isIn_nI q]
        by_cases c : inT s v i
        · have dl : yD s i v ≤ 23 := DD_le W.tr c.1 hv c.2
          rw [if_pos ((hE.1 i (by omega)).mpr c), (steps_n hE c).1, imax_n (by omega) (by omega)]
          refine ih (i + 1) _ (by omega) (by omega) (by split <;> omega) (fun u hu hc => ?_) ?_
          · by_cases z : u = i
            · subst z; split <;> omega
            · have := h4 u (by omega) hc; split <;> omega
          · split
            · exact Or.inr ⟨i, c, rfl⟩
            · exact h5
        · rw [if_neg (fun z => c ((hE.1 i (by omega)).mp z))]
          refine ih (i + 1) r (by omega) (by omega) h3 (fun u hu hc => ?_) h5
          by_cases z : u = i
          · subst z; exact absurd hc c
          · exact h4 u (by omega) hc
      · have : i = 24 := by omega
        subst this
        rw [if_neg q]
        exact ⟨r, h3, rfl, fun u hu => h4 u hu.1.1 hu, h5⟩
  exact key 25 0 0 (by decide) (by decide) (by decide) (fun u hu => absurd hu (Nat.not_lt_zero _)) (Or.inl rfl)
theorem long6 (h : OKS N (S.2 0) n) (E : CS) (M : CS) : ∃ r, (f_X6_longestWay M N E).1 = nI r ∧ MXP (S.2 0) (fun _ _ => True) r := by
  obtain ⟨W, L, R, -⟩ := h
  have key : ∀ (m i r : Nat) (E : CS), i ≤ 24 → i + m = 25 → MXP (S.2 0) (fun w _ => w < i) r → ∃ r', (l_X6_longestWay_4 N m E (nI r) i).1 = nI r' ∧ MXP (S.2 0) (fun _ _ => True) r' := by
    intro m
    induction m with
    | zero => intro i r E h1 h2; omega
    | succ m ih =>
      intro i r E h1 h2 h3
      rw [l_X6_longestWay_4]
      simp only [bind1]
      by_cases q : i < 24
      · rw [if_pos q, isroot_n R q]
        by_cases c : tB (S.2 0) i = true
        · have hi := tB_iff.mp c
          obtain ⟨f, f1, f2, f3, f4⟩ := far_n W hi.1 (spread_n W R hi.1 E)
          have r23 := h3.1
          rw [if_pos c, f2, imax_n (by omega) (by omega)]
          refine ih (i + 1) _ _ (by omega) (by omega) ⟨by split <;> omega, fun w u hw hu hp => ?_, ?_⟩
          · have hp : w < i + 1 := hp
            by_cases z : w = i
            · subst z
              have := f3 u hu
              split <;> omega
            · have := h3.2.1 w u hw hu (show w < i by omega)
              split <;> omega
          · split
            · rcases f4 with z | ⟨u, u1, u2⟩
              · omega
              · exact Or.inr ⟨i, u, hi, u1, Nat.lt_succ_self i, u2⟩
            · rcases h3.2.2 with z | ⟨w, u, x1, x2, x3, x4⟩
              · exact Or.inl z
              · exact Or.inr ⟨w, u, x1, x2, Nat.lt_succ_of_lt x3, x4⟩
        · rw [if_neg c]
          refine ih (i + 1) r _ (by omega) (by omega) ⟨h3.1, fun w u hw hu hp => ?_, ?_⟩
          · have hp : w < i + 1 := hp
            by_cases z : w = i
            · subst z; exact absurd (tB_iff.mpr hw) c
            · exact h3.2.1 w u hw hu (show w < i by omega)
          · rcases h3.2.2 with z | ⟨w, u, x1, x2, x3, x4⟩
            · exact Or.inl z
            · exact Or.inr ⟨w, u, x1, x2, Nat.lt_succ_of_lt x3, x4⟩
      · have : i = 24 := by omega
        subst this
        rw [if_neg q]
        refine ⟨r, rfl, h3.1, fun w u hw hu _ => h3.2.1 w u hw hu hw.1.1, ?_⟩
        rcases h3.2.2 with z | ⟨w, u, x1, x2, x3, x4⟩
        · exact Or.inl z
        · exact Or.inr ⟨w, u, x1, x2, trivial, x4⟩
  exact key 25 0 0 E (by decide) (by decide) ⟨by decide, fun w u _ _ hp => absurd hp (Nat.not_lt_zero _), Or.inl rfl⟩
end LONG
