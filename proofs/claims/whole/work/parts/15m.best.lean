/-! PURE PART. bestRoot -/
/-- b is the first of those that cost least -/
def BST (p : Nat → Bool) (c : Nat → Nat) (k b : Nat) : Prop := p b = true ∧ b < 24 ∧ ∀ j, j < k → p j = true → c b ≤ c j ∧ (c j = c b → b ≤ j)
theorem BST.uniq {p : Nat → Bool} {c : Nat → Nat} {a b : Nat} (h1 : BST p c 24 a) (h2 : BST p c 24 b) : a = b := by
  have h3 := h1.2.2 b h2.2.1 h2.1
  have h4 := h2.2.2 a h1.2.1 h1.1
  have h5 := h3.2 (by omega)
  have h6 := h4.2 (by omega)
  omega
section BEST
variable {N : CS} {S : CS} {n : Nat}
theorem cost_fn (h : OKS N (S.2 0) n) (hn : n ≤ 512) : ∃ c : Nat → Nat, ∀ i, rP (S.2 0) i → c i ≤ 226713600 ∧ csum (S.2 0) i 24 = nI (c i) := by
  have k : ∀ i, ∃ m, rP (S.2 0) i → m ≤ 226713600 ∧ csum (S.2 0) i 24 = nI m := by
    intro i
    by_cases q : rP (S.2 0) i
    · obtain ⟨m, m1, m2⟩ := csum_le h hn q 24 (Nat.le_refl _)
      exact ⟨m, fun _ => ⟨by omega, m2⟩⟩
    · exact ⟨0, fun z => absurd z q⟩
  exact ⟨fun i => Classical.choose (k i), fun i => Classical.choose_spec (k i)⟩
theorem best6 (h : OKS N (S.2 0) n) (M : CS) {v : Nat} (hv : rP (S.2 0) v) {c : Nat → Nat} (hc : ∀ i, rP (S.2 0) i → c i ≤ 226713600 ∧ csum (S.2 0) i 24 = nI (c i)) {G : CS} (hG : SPR (S.2 0) v G) : ∀ (m i b : Nat) (E : CS), i ≤ 24 → i + m = 25 → BST (iT (S.2 0) v) c i b → c b ≤ c v → (c b = c v → b ≤ v) → ∃ b', BST (iT (S.2 0) v) c 24 b' ∧ (l_X6_bestRoot_45 M N G m E (nI b) (nI (c b)) i).1 = nI b' := by
  intro m
  induction m with
  | zero => intro i b E h1 h2; omega
  | succ m ih =>
    intro i b E h1 h2 hb hb1 hb2
    have b24 := hb.2.1
    have cb := (hc b (iT_iff.mp hb.1).1).1
    rw [l_X6_bestRoot_45]
    simp only [bind1]
    by_cases q : i < 24
    · rw [if_pos q, isIn_nI q]
      by_cases d : inT (S.2 0) v i
      · have ci := hc i d.1
        have e := cost6' h d.1 M E
        rw [ci.2] at e
        have y : nI (c i) < nI (c b) ↔ c i < c b := nI_ltI (by omega) (by omega)
        have y2 : nI (c i) = nI (c b) ↔ c i = c b := nI_eq (by omega) (by omega)
        have y3 : nI i < nI b ↔ i < b := nI_ltI (by omega) (by omega)
        have pi := iT_iff.mpr d
        rw [if_pos ((hG.1 i (by omega)).mpr d), e]
        by_cases l : c i < c b
        · rw [if_pos (y.mpr l)]
          exact ih (i + 1) i _ (by omega) (by omega) ⟨pi, q, fun j hj pj => by
            by_cases z : j = i
            · subst z; exact ⟨Nat.le_refl _, fun _ => Nat.le_refl _⟩
            · have := (hb.2.2 j (by omega) pj).1
              exact ⟨by omega, fun k => by omega⟩⟩ (by omega) (fun k => by omega)
        · rw [if_neg (fun z => l (y.mp z))]
          by_cases l2 : c i = c b
          · rw [if_pos (y2.mpr l2)]
            by_cases l3 : i < b
            · rw [if_pos (y3.mpr l3), l2, ← l2]
              exact ih (i + 1) i _ (by omega) (by omega) ⟨pi, q, fun j hj pj => by
                by_cases z : j = i
                · subst z; exact ⟨Nat.le_refl _, fun _ => Nat.le_refl _⟩
                · have k1 := hb.2.2 j (by omega) pj
                  exact ⟨by omega, fun k => by have := k1.2 (by omega); omega⟩⟩ (by omega) (fun k => by have := hb2 (by omega); omega)
            · rw [if_neg (fun z => l3 (y3.mp z))]
              exact ih (i + 1) b _ (by omega) (by omega) ⟨hb.1, b24, fun j hj pj => by
                by_cases z : j = i
                · subst z; exact ⟨by omega, fun _ => by omega⟩
                · exact hb.2.2 j (by omega) pj⟩ hb1 hb2
          · rw [if_neg (fun z => l2 (y2.mp z))]
            exact ih (i + 1) b _ (by omega) (by omega) ⟨hb.1, b24, fun j hj pj => by
              by_cases z : j = i
              · subst z; exact ⟨by omega, fun k => absurd k l2⟩
              · exact hb.2.2 j (by omega) pj⟩ hb1 hb2
      · rw [if_neg (fun z => d ((hG.1 i (by omega)).mp z))]
        exact ih (i + 1) b _ (by omega) (by omega) ⟨hb.1, b24, fun j hj pj => by
          by_cases z : j = i
          · subst z; exact absurd (iT_iff.mp pj) d
          · exact hb.2.2 j (by omega) pj⟩ hb1 hb2
    · have : i = 24 := by omega
      subst this
      rw [if_neg q]
      exact ⟨b, hb, rfl⟩
theorem best7 (h : OKS N (S.2 0) n) {v : Nat} (hv : rP (S.2 0) v) {c : Nat → Nat} (hc : ∀ i, rP (S.2 0) i → c i ≤ 226713600 ∧ csum (S.2 0) i 24 = nI (c i)) : ∀ (m i : Nat) (x3 x4 : Int32) (Z : CS), sw S Z → i ≤ 24 → i + m = 25 → ((x4 = 1000000000 ∧ i ≤ v ∧ ∀ j, j < i → ¬ iT (S.2 0) v j = true) ∨ ∃ b, x3 = nI b ∧ x4 = nI (c b) ∧ BST (iT (S.2 0) v) c i b ∧ b < i) → ol_X7_bestRoot_26 S (nI v) m Z x3 x4 i ∧ (∃ b', BST (iT (S.2 0) v) c 24 b' ∧ (l_X7_bestRoot_26 S (nI v) m Z x3 x4 i).1 = nI b') ∧ sw S (l_X7_bestRoot_26 S (nI v) m Z x3 x4 i).2 := by
  have W := h.1
  have T := W.tr
  obtain ⟨o0, e0⟩ := top_n W hv
  have tlt : rT (S.2 0) v < 24 := (tp_P T hv).1.1
  intro m
  induction m with
  | zero => intro i x3 x4 Z _ h1 h2; omega
  | succ m ih =>
    intro i x3 x4 Z hZ h1 h2 hI
    have z0 := sw_row hZ
    have big : ¬ (1000000000 : Int32) < x4 := by
      rcases hI with ⟨rfl, -⟩ | ⟨b, -, rfl, hb, -⟩
      · decide
      · have := (hc b (iT_iff.mp hb.1).1).1
        exact nI_nlt (show c b ≤ 1000000000 by omega) (by decide)
    rw [ol_X7_bestRoot_26, l_X7_bestRoot_26]
    simp only [bind1]
    by_cases q : i < 24
    · have skip : ¬ iT (S.2 0) v i = true → ((x4 = 1000000000 ∧ i + 1 ≤ v ∧ ∀ j, j < i + 1 → ¬ iT (S.2 0) v j = true) ∨ ∃ b, x3 = nI b ∧ x4 = nI (c b) ∧ BST (iT (S.2 0) v) c (i + 1) b ∧ b < i + 1) := by
        intro ni
        rcases hI with ⟨a1, a2, a3⟩ | ⟨b, a1, a2, hb, bi⟩
        · have : i ≠ v := fun z => ni (by rw [z]; exact iT_iff.mpr ⟨hv, rfl⟩)
          exact Or.inl ⟨a1, by omega, fun j hj => by
            by_cases z : j = i
            · rw [z]; exact ni
            · exact a3 j (by omega)⟩
        · exact Or.inr ⟨b, a1, a2, ⟨hb.1, hb.2.1, fun j hj pj => by
            by_cases z : j = i
            · rw [z] at pj; exact absurd pj ni
            · exact hb.2.2 j (by omega) pj⟩, by omega⟩
      rw [if_pos q, cl0 q, z0, e0, if_neg big]
      by_cases d : S.2 0 (13 * i) = 1
      · have hi : rP (S.2 0) i := ⟨q, d⟩
        obtain ⟨o1, e1⟩ := top_n (S := Z) (by rw [z0]; exact W) (v := i) (by rw [z0]; exact hi)
        rw [z0] at e1
        have ilt : rT (S.2 0) i < 24 := (tp_P T hi).1.1
        have y : nI (rT (S.2 0) i) = nI (rT (S.2 0) v) ↔ rT (S.2 0) i = rT (S.2 0) v := nI_eq (by omega) (by omega)
        rw [if_pos d, e1]
        by_cases k : rT (S.2 0) i = rT (S.2 0) v
        · have pi := iT_iff.mpr (show inT (S.2 0) v i from ⟨hi, k⟩)
          obtain ⟨o2, e2, w2⟩ := cost7 (S := Z) (N := N) (n := n) (by rw [z0]; exact h) (v := i) (by rw [z0]; exact hi)
          have ci := hc i hi
          rw [z0, ci.2] at e2
          rw [if_pos (y.mpr k), e2]
          have w3 := hZ.trans w2
          by_cases l : nI (c i) < x4
          · rw [if_pos l]
            obtain ⟨k1, k2, k3⟩ := ih (i + 1) (nI i) (nI (c i)) _ w3 (by omega) (by omega) (Or.inr ⟨i, rfl, rfl, ⟨pi, q, fun j hj pj => by
              by_cases z : j = i
              · subst z; exact ⟨Nat.le_refl _, fun _ => Nat.le_refl _⟩
              · rcases hI with ⟨a1, a2, a3⟩ | ⟨b, a1, a2, hb, bi⟩
                · exact absurd pj (a3 j (by omega))
                · have cb := (hc b (iT_iff.mp hb.1).1).1
                  rw [a2, nI_ltI (by omega) (by omega)] at l
                  have := (hb.2.2 j (by omega) pj).1
                  exact ⟨by omega, fun k => by omega⟩⟩, Nat.lt_succ_self i⟩)
            exact ⟨⟨fun _ => ⟨vi0 q, fun _ => ⟨o1, fun _ => ⟨o2, fun _ => k1, fun z => absurd l z⟩, fun z => absurd (y.mpr k) z⟩, fun z => absurd d z⟩, fun z => absurd q z⟩, k2, k3⟩
          · rw [if_neg l]
            obtain ⟨k1, k2, k3⟩ := ih (i + 1) x3 x4 _ w3 (by omega) (by omega) (by
              rcases hI with ⟨a1, a2, a3⟩ | ⟨b, a1, a2, hb, bi⟩
              · exact absurd (by rw [a1]; exact nI_lt (show c i < 1000000000 by omega) (by decide)) l
              · have cb := (hc b (iT_iff.mp hb.1).1).1
                rw [a2, nI_ltI (by omega) (by omega)] at l
                exact Or.inr ⟨b, a1, a2, ⟨hb.1, hb.2.1, fun j hj pj => by
                  by_cases z : j = i
                  · subst z
                    exact ⟨by omega, fun kk => by omega⟩
                  · exact hb.2.2 j (by omega) pj⟩, by omega⟩)
            exact ⟨⟨fun _ => ⟨vi0 q, fun _ => ⟨o1, fun _ => ⟨o2, fun z => absurd z l, fun _ => k1⟩, fun z => absurd (y.mpr k) z⟩, fun z => absurd d z⟩, fun z => absurd q z⟩, k2, k3⟩
        · rw [if_neg (fun z => k (y.mp z))]
          obtain ⟨k1, k2, k3⟩ := ih (i + 1) x3 x4 Z hZ (by omega) (by omega) (skip (fun z => k (iT_iff.mp z).2))
          exact ⟨⟨fun _ => ⟨vi0 q, fun _ => ⟨o1, fun z => absurd (y.mp z) k, fun _ => ⟨fun z => absurd z big, fun _ => k1⟩⟩, fun z => absurd d z⟩, fun z => absurd q z⟩, k2, k3⟩
      · rw [if_neg d]
        obtain ⟨k1, k2, k3⟩ := ih (i + 1) x3 x4 Z hZ (by omega) (by omega) (skip (fun z => d (iT_iff.mp z).1.2))
        exact ⟨⟨fun _ => ⟨vi0 q, fun z => absurd z d, fun _ => ⟨fun z => absurd z big, fun _ => k1⟩⟩, fun z => absurd q z⟩, k2, k3⟩
    · have : i = 24 := by omega
      subst this
      rw [if_neg q]
      refine ⟨⟨fun z => absurd z q, fun _ => trivial⟩, ?_, hZ⟩
      rcases hI with ⟨-, a2, -⟩ | ⟨b, a1, -, hb, -⟩
      · have := hv.1; omega
      · exact ⟨b, hb, a1⟩
end BEST
theorem sim_bestRoot (M : CS) (N : CS) (F : CS) (P : CS) (Q : HS) (E : CS) (O : CS) (S : CS) (n : Nat) (a1 : Int32) (h : REL M N F P Q E O S n) (hn : n < 512) : True ∧ (o_X7_bestRoot S a1) ∧ (f_X6_bestRoot M N E a1).1 = (f_X7_bestRoot S a1).1 ∧ REL M N F P Q ((f_X6_bestRoot M N E a1).2) O ((f_X7_bestRoot S a1).2) (n + 1) := by
  have K := h.1
  refine ⟨trivial, ?_⟩
  unfold o_X7_bestRoot f_X6_bestRoot f_X7_bestRoot
  rcases ver_c K a1 with ⟨q1, q2, q3⟩ | ⟨v, hv, rfl, q1, q2, q3⟩
  · rw [q1, q3]
    exact ⟨⟨q2, fun k => (by cases k), fun _ => trivial⟩, rfl, rel_mono h⟩
  · obtain ⟨c, hc⟩ := cost_fn K (by omega)
    have hE := spread_n K.1 K.2.2.1 hv E
    obtain ⟨o0, -⟩ := top_n K.1 hv
    obtain ⟨o, ⟨b7, hb7, e7⟩, w⟩ := best7 K hv hc 25 0 (-5) 1000000000 S (sw.rf S) (by decide) (by decide) (Or.inl ⟨rfl, Nat.zero_le _, fun j hj => absurd hj (Nat.not_lt_zero _)⟩)
    rw [q1, q3, if_pos rfl, if_pos rfl]
    refine ⟨⟨q2, fun _ => ⟨o0, o⟩, fun k => absurd rfl k⟩, ?_, rel_sw (rel_mono h) w⟩
    simp only [bind1]
    have e6 := cost6' K hv M (f_X2_spread E N (nI v))
    rw [(hc v hv).2] at e6
    obtain ⟨b6, hb6, e6'⟩ := best6 K M hv hc hE 25 0 v (f_X6_costFrom M N (f_X2_spread E N (nI v)) (nI v)).2 (by decide) (by decide) ⟨iT_iff.mpr ⟨hv, rfl⟩, hv.1, fun j hj => absurd hj (Nat.not_lt_zero _)⟩ (Nat.le_refl _) (fun _ => Nat.le_refl _)
    rw [e6, e6', e7, hb6.uniq hb7]
