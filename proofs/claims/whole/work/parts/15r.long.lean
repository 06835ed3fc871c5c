/-! PURE PART. the longest way -/
def MXP (s : Nat → Int32) (p : Nat → Nat → Prop) (r : Nat) : Prop := r ≤ 23 ∧ (∀ w u, rR s w → inT s w u → p w u → yD s u w ≤ r) ∧ (r = 0 ∨ ∃ w u, rR s w ∧ inT s w u ∧ p w u ∧ yD s u w = r)
theorem MXP.uniq {s : Nat → Int32} {p q : Nat → Nat → Prop} (hp : ∀ w u, rR s w → inT s w u → (p w u ↔ q w u)) {a b : Nat} (h1 : MXP s p a) (h2 : MXP s q b) : a = b := by
  have k1 : a ≤ b := by
    rcases h1.2.2 with z | ⟨w, u, x1, x2, x3, x4⟩
    · omega
    · have := h2.2.1 w u x1 x2 ((hp w u x1 x2).mp x3); omega
  have k2 : b ≤ a := by
    rcases h2.2.2 with z | ⟨w, u, x1, x2, x3, x4⟩
    · omega
    · have := h1.2.1 w u x1 x2 ((hp w u x1 x2).mpr x3); omega
  omega
theorem imax_n {a b : Nat} (ha : a < 2 ^ 31) (hb : b < 2 ^ 31) : imax (nI a) (nI b) = nI (if a < b then b else a) := by
  unfold imax
  by_cases c : a < b
  · rw [if_pos c, if_pos ((nI_ltI ha hb).mpr c)]
  · rw [if_neg c, if_neg (fun z => c ((nI_ltI ha hb).mp z))]
section LONG
variable {N : CS} {S : CS} {n : Nat}
theorem far_n {s : Nat → Int32} (W : SH s) {v : Nat} (hv : rP s v) {E : CS} (hE : SPR s v E) : ∃ r, r ≤ 23 ∧ f_X2_farthest E = nI r ∧ (∀ u, inT s v u → yD s u v ≤ r) ∧ (r = 0 ∨ ∃ u, inT s v u ∧ yD s u v = r) := by
  have key : ∀ (m i r : Nat), i ≤ 24 → i + m = 25 → r ≤ 23 → (∀ u, u < i → inT s v u → yD s u v ≤ r) → (r = 0 ∨ ∃ u, inT s v u ∧ yD s u v = r) → ∃ r', r' ≤ 23 ∧ l_X2_farthest_4 E m (nI r) i = nI r' ∧ (∀ u, inT s v u → yD s u v ≤ r') ∧ (r' = 0 ∨ ∃ u, inT s v u ∧ yD s u v = r') := by
    intro m
    induction m with
    | zero => intro i r h1 h2; omega
    | succ m ih =>
      intro i r h1 h2 h3 h4 h5
      rw [l_X2_farthest_4]
      by_cases q : i < 24
      · rw [if_pos q, isIn_nI q]
        by_cases c : inT s v i
        · have dl : yD s i v ≤ 23 := DD_le W.tr c.1 hv c.2
          rw [if_pos ((hE.1 i (by omega)).mpr c), (steps_n hE c).1, imax_n (by omega) (by omega)]
          refine ih (i + 1) _ (by omega) (by omega) (by split <;> omega) (fun u hu hc => ?_) ?_
          · by_cases z : u = i
            · subst z; split <;> omega
            · have := h4 u (by omega) hc; split <;> omega
          · split
            · exact Or.inr ⟨i, c, rfl⟩
            · exact h5
        · rw [if_neg (fun z => c ((hE.1 i (by omega)).mp z))]
          refine ih (i + 1) r (by omega) (by omega) h3 (fun u hu hc => ?_) h5
          by_cases z : u = i
          · subst z; exact absurd hc c
          · exact h4 u (by omega) hc
      · have : i = 24 := by omega
        subst this
        rw [if_neg q]
        exact ⟨r, h3, rfl, fun u hu => h4 u hu.1.1 hu, h5⟩
  exact key 25 0 0 (by decide) (by decide) (by decide) (fun u hu => absurd hu (Nat.not_lt_zero _)) (Or.inl rfl)
theorem long6 (h : OKS N (S.2 0) n) (E : CS) (M : CS) : ∃ r, (f_X6_longestWay M N E).1 = nI r ∧ MXP (S.2 0) (fun _ _ => True) r := by
  obtain ⟨W, L, R, -⟩ := h
  have key : ∀ (m i r : Nat) (E : CS), i ≤ 24 → i + m = 25 → MXP (S.2 0) (fun w _ => w < i) r → ∃ r', (l_X6_longestWay_4 N m E (nI r) i).1 = nI r' ∧ MXP (S.2 0) (fun _ _ => True) r' := by
    intro m
    induction m with
    | zero => intro i r E h1 h2; omega
    | succ m ih =>
      intro i r E h1 h2 h3
      rw [l_X6_longestWay_4]
      simp only [bind1]
      by_cases q : i < 24
      · rw [if_pos q, isroot_n R q]
        by_cases c : tB (S.2 0) i = true
        · have hi := tB_iff.mp c
          obtain ⟨f, f1, f2, f3, f4⟩ := far_n W hi.1 (spread_n W R hi.1 E)
          have r23 := h3.1
          rw [if_pos c, f2, imax_n (by omega) (by omega)]
          refine ih (i + 1) _ _ (by omega) (by omega) ⟨by split <;> omega, fun w u hw hu hp => ?_, ?_⟩
          · have hp : w < i + 1 := hp
            by_cases z : w = i
            · subst z
              have := f3 u hu
              split <;> omega
            · have := h3.2.1 w u hw hu (show w < i by omega)
              split <;> omega
          · split
            · rcases f4 with z | ⟨u, u1, u2⟩
              · omega
              · exact Or.inr ⟨i, u, hi, u1, Nat.lt_succ_self i, u2⟩
            · rcases h3.2.2 with z | ⟨w, u, x1, x2, x3, x4⟩
              · exact Or.inl z
              · exact Or.inr ⟨w, u, x1, x2, Nat.lt_succ_of_lt x3, x4⟩
        · rw [if_neg c]
          refine ih (i + 1) r _ (by omega) (by omega) ⟨h3.1, fun w u hw hu hp => ?_, ?_⟩
          · have hp : w < i + 1 := hp
            by_cases z : w = i
            · subst z; exact absurd (tB_iff.mpr hw) c
            · exact h3.2.1 w u hw hu (show w < i by omega)
          · rcases h3.2.2 with z | ⟨w, u, x1, x2, x3, x4⟩
            · exact Or.inl z
            · exact Or.inr ⟨w, u, x1, x2, Nat.lt_succ_of_lt x3, x4⟩
      · have : i = 24 := by omega
        subst this
        rw [if_neg q]
        refine ⟨r, rfl, h3.1, fun w u hw hu _ => h3.2.1 w u hw hu hw.1.1, ?_⟩
        rcases h3.2.2 with z | ⟨w, u, x1, x2, x3, x4⟩
        · exact Or.inl z
        · exact Or.inr ⟨w, u, x1, x2, trivial, x4⟩
  exact key 25 0 0 E (by decide) (by decide) ⟨by decide, fun w u _ _ hp => absurd hp (Nat.not_lt_zero _), Or.inl rfl⟩
end LONG
section LONG7
variable {N : CS} {S : CS} {n : Nat}
theorem long7 (h : OKS N (S.2 0) n) : ol_X7_mostSteps_4 25 S 0 0 ∧ (∃ r, (f_X7_mostSteps S).1 = nI r ∧ MXP (S.2 0) (fun _ _ => True) r) ∧ sw S (f_X7_mostSteps S).2 := by
  have W := h.1
  have L := h.2.1
  have key : ∀ (m i r : Nat) (Z : CS), sw S Z → i ≤ 24 → i + m = 25 → MXP (S.2 0) (fun _ u => u < i) r → ol_X7_mostSteps_4 m Z (nI r) i ∧ (∃ r', (l_X7_mostSteps_4 m Z (nI r) i).1 = nI r' ∧ MXP (S.2 0) (fun _ _ => True) r') ∧ sw S (l_X7_mostSteps_4 m Z (nI r) i).2 := by
    intro m
    induction m with
    | zero => intro i r Z _ h1 h2; omega
    | succ m ih =>
      intro i r Z hZ h1 h2 h3
      have z0 := sw_row hZ
      have r23 := h3.1
      rw [ol_X7_mostSteps_4, l_X7_mostSteps_4]
      simp only [bind1]
      by_cases q : i < 24
      · rw [if_pos q, cl0 q, z0]
        by_cases c : S.2 0 (13 * i) = 1
        · have hi : rP (S.2 0) i := ⟨q, c⟩
          obtain ⟨w, w1, w2, o1, e1, -⟩ := root_c (S := Z) (N := N) (n := n) (by rw [z0]; exact h) (v := i) (by rw [z0]; exact hi)
          rw [z0] at w1 w2
          obtain ⟨o2, s1, l1, -, -⟩ := lay_n (S := Z) (by rw [z0]; exact W) (x := w) (v := i) (by rw [z0]; exact w1.1) (by rw [z0]; exact hi) (by rw [z0]; exact w2)
          rw [z0] at l1
          have dl : yD (S.2 0) w i ≤ 23 := DD_le W.tr w1.1 hi w2
          have dc : yD (S.2 0) i w = yD (S.2 0) w i := DD_comm _ _ _ _
          have hin : inT (S.2 0) w i := ⟨hi, w2.symm⟩
          rw [if_pos c, e1, l1]
          have y : nI r < nI (yD (S.2 0) w i) ↔ r < yD (S.2 0) w i := nI_ltI (by omega) (by omega)
          have uq : ∀ w', rR (S.2 0) w' → inT (S.2 0) w' i → w' = w := fun w' a b => L.2.2.1 w' w a w1 (b.2.symm.trans w2.symm)
          by_cases d : r < yD (S.2 0) w i
          · rw [if_pos (y.mpr d)]
            obtain ⟨k1, k2⟩ := ih (i + 1) (yD (S.2 0) w i) _ (hZ.trans s1) (by omega) (by omega) ⟨dl, fun w' u hw hu hp => by
              have hp : u < i + 1 := hp
              by_cases z : u = i
              · subst z
                rw [uq w' hw hu]; omega
              · have := h3.2.1 w' u hw hu (show u < i by omega)
                omega, Or.inr ⟨w, i, w1, hin, Nat.lt_succ_self i, dc⟩⟩
            exact ⟨⟨fun _ => ⟨vi0 q, fun _ => ⟨o1, o2, fun _ => k1, fun z => absurd (y.mpr d) z⟩, fun z => absurd c z⟩, fun z => absurd q z⟩, k2⟩
          · rw [if_neg (fun z => d (y.mp z))]
            obtain ⟨k1, k2⟩ := ih (i + 1) r _ (hZ.trans s1) (by omega) (by omega) ⟨r23, fun w' u hw hu hp => by
              have hp : u < i + 1 := hp
              by_cases z : u = i
              · subst z
                rw [uq w' hw hu]; omega
              · exact h3.2.1 w' u hw hu (show u < i by omega), by
              rcases h3.2.2 with z | ⟨w, u, x1, x2, x3, x4⟩
              · exact Or.inl z
              · exact Or.inr ⟨w, u, x1, x2, Nat.lt_succ_of_lt x3, x4⟩⟩
            exact ⟨⟨fun _ => ⟨vi0 q, fun _ => ⟨o1, o2, fun z => absurd (y.mp z) d, fun _ => k1⟩, fun z => absurd c z⟩, fun z => absurd q z⟩, k2⟩
        · rw [if_neg c]
          obtain ⟨k1, k2⟩ := ih (i + 1) r Z hZ (by omega) (by omega) ⟨r23, fun w' u hw hu hp => by
            have hp : u < i + 1 := hp
            by_cases z : u = i
            · subst z; exact absurd hu.1.2 c
            · exact h3.2.1 w' u hw hu (show u < i by omega), by
            rcases h3.2.2 with z | ⟨w, u, x1, x2, x3, x4⟩
            · exact Or.inl z
            · exact Or.inr ⟨w, u, x1, x2, Nat.lt_succ_of_lt x3, x4⟩⟩
          exact ⟨⟨fun _ => ⟨vi0 q, fun z => absurd z c, fun _ => k1⟩, fun z => absurd q z⟩, k2⟩
      · have : i = 24 := by omega
        subst this
        rw [if_neg q]
        refine ⟨⟨fun z => absurd z q, fun _ => trivial⟩, ⟨r, rfl, r23, fun w u hw hu _ => h3.2.1 w u hw hu hu.1.1, ?_⟩, hZ⟩
        rcases h3.2.2 with z | ⟨w, u, x1, x2, x3, x4⟩
        · exact Or.inl z
        · exact Or.inr ⟨w, u, x1, x2, trivial, x4⟩
  exact key 25 0 0 S (sw.rf S) (by decide) (by decide) ⟨by decide, fun w u _ _ hp => absurd hp (Nat.not_lt_zero _), Or.inl rfl⟩
theorem long_n (h : OKS N (S.2 0) n) (M E : CS) : (f_X6_longestWay M N E).1 = (f_X7_mostSteps S).1 := by
  obtain ⟨a, a1, a2⟩ := long6 h E M
  obtain ⟨-, ⟨b, b1, b2⟩, -⟩ := long7 h
  rw [a1, b1, a2.uniq (fun _ _ _ _ => Iff.rfl) b2]
end LONG7
