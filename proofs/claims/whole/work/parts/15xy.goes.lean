/-! PURE PART. the reference goes through a text; one order done -/
section GOS
variable {t : Nat → Nat} {L : Nat}
theorem go_end (a : Int32) (n i : Nat) (S : CS) : l_X7_go_14 a (n + 1) S i 0 = (nI i, S) ∧ ol_X7_go_14 a (n + 1) S i 0 := by
  rw [l_X7_go_14, ol_X7_go_14, if_pos rfl]
  exact ⟨rfl, fun _ => trivial, fun k => absurd rfl k⟩
theorem go0_l (hL : L ≤ 80) (ht : ∀ i, t i < 65536) : ∀ (n m i : Nat) (S : CS), RX t L S → S.1 13 = nI (PO t L i) → S.1 14 = 0 → PO t L i ≤ L → L + 2 ≤ n + PO t L i → L < 6 * m + PO t L i → ol_X7_go_14 0 n S i 1 ∧ G4 S (l_X7_go_14 0 n S i 1).2 ∧ (l_X7_go_14 0 n S i 1).2.1 13 = nI (RD t L m i).2.1 ∧ (l_X7_go_14 0 n S i 1).2.1 14 = bI (!(RD t L m i).1) := by
  intro n
  induction n with
  | zero => intro m i S h1 h2 h3 h4 h5; omega
  | succ n ih =>
    intro m i S hx e ew hp hn hm
    cases m with
    | zero => omega
    | succ m =>
      cases n with
      | zero => omega
      | succ n =>
        obtain ⟨o1, lt, ⟨g1, b1, c1, -⟩, -⟩ := order_r hx hL ht hp e ew
        obtain ⟨a, b, c⟩ := OD_le (t := t) hp
        have n10 : ¬ (1 : Int32) = 0 := by decide
        rw [l_X7_go_14, ol_X7_go_14, RD, if_neg n10]
        simp only [bind1]
        generalize f_X7_order S = Z at *
        have hZ := g1.rx hx
        rw [if_pos trivial]
        by_cases x : (OD t L (PO t L i)).1 = true
        · have c := c x
          rw [x] at c1
          have c1 : Z.1 14 = 0 := c1
          have q : nI (OD t L (PO t L i)).2.1 < nI L ↔ (OD t L (PO t L i)).2.1 < L := nI_ltI (by omega) (by omega)
          rw [if_pos c1, if_pos x, b1, hZ.1]
          by_cases y : (OD t L (PO t L i)).2.1 < L
          · obtain ⟨o2, s2⟩ := sign_r (c := 59) (w := false) hZ hL ht (Nat.le_of_lt y) (by decide) b1 c1
            have o2 : o_X7_sign Z 59 := o2
            have s2 : SG Z (f_X7_sign Z 59) _ _ := s2
            rw [if_pos (q.mpr y), if_pos y]
            generalize f_X7_sign Z 59 = U at *
            unfold sW sP at s2
            rw [if_neg (show ¬ false = true by decide)] at s2
            by_cases w : tq t L (OD t L (PO t L i)).2.1 59 = true
            · rw [w, if_pos rfl] at s2
              have u0 : U.1 14 = 0 := s2.2.2.2
              have ep : PO t L (i + 1) = (OD t L (PO t L i)).2.1 + 1 := rfl
              obtain ⟨o3, g3, b3, c3⟩ := ih m (i + 1) U (s2.rx hZ) s2.2.2.1 u0 (by omega) (by omega) (by omega)
              rw [if_pos u0, if_pos w]
              exact ⟨⟨fun k => absurd k n10, fun _ => ⟨o1, fun _ => ⟨fun _ => ⟨fun _ => ⟨o2, fun _ => o3, fun k => absurd u0 k⟩, fun k => absurd (q.mpr y) k⟩, fun k => absurd c1 k⟩, fun k => absurd trivial k⟩⟩, (g1.trans s2.g4).trans g3, b3, c3⟩
            · have w' : tq t L (OD t L (PO t L i)).2.1 59 = false := by simpa using w
              rw [w', if_neg (show ¬ false = true by decide)] at s2
              have u0 : ¬ U.1 14 = 0 := by rw [s2.2.2.2]; decide
              obtain ⟨e3, o3⟩ := go_end 0 n (i + 1) U
              rw [if_neg u0, if_neg w, e3]
              exact ⟨⟨fun k => absurd k n10, fun _ => ⟨o1, fun _ => ⟨fun _ => ⟨fun _ => ⟨o2, fun k => absurd k u0, fun _ => o3⟩, fun k => absurd (q.mpr y) k⟩, fun k => absurd c1 k⟩, fun k => absurd trivial k⟩⟩, g1.trans s2.g4, s2.2.2.1, s2.2.2.2⟩
          · obtain ⟨e3, o3⟩ := go_end 0 n (i + 1) Z
            rw [if_neg (fun k => y (q.mp k)), if_neg y, e3]
            exact ⟨⟨fun k => absurd k n10, fun _ => ⟨o1, fun _ => ⟨fun _ => ⟨fun k => absurd (q.mp k) y, fun _ => o3⟩, fun k => absurd c1 k⟩, fun k => absurd trivial k⟩⟩, g1, b1, c1⟩
        · have x' : (OD t L (PO t L i)).1 = false := by simpa using x
          rw [x'] at c1
          have nz : ¬ Z.1 14 = 0 := by rw [c1]; decide
          obtain ⟨e3, o3⟩ := go_end 0 n (i + 1) Z
          rw [if_neg nz, if_neg x, e3]
          exact ⟨⟨fun k => absurd k n10, fun _ => ⟨o1, fun _ => ⟨fun k => absurd k nz, fun _ => o3⟩, fun k => absurd trivial k⟩⟩, g1, b1, c1⟩
theorem go_m (m : Nat) (a : Int32) (S : CS) : (bind1 (setI S 13 0) (fun z1 => (bind1 (setI z1 14 0) (fun z2 => (l_X7_go_14 a m z2 0 1))))) = l_X7_go_14 a m (setI (setI S 13 0) 14 0) 0 1 ∧ (ol_X7_go_14 a m (setI (setI S 13 0) 14 0) 0 1 → (bind1 (setI S 13 0) (fun z1 => (bind1 (setI z1 14 0) (fun z2 => (ol_X7_go_14 a m z2 0 1)))))) := ⟨rfl, id⟩
theorem go_e (a : Int32) (S : CS) : f_X7_go S a = l_X7_go_14 a 82 (setI (setI S 13 0) 14 0) 0 1 := (go_m 82 a S).1
theorem go_oe (a : Int32) (S : CS) (h : ol_X7_go_14 a 82 (setI (setI S 13 0) 14 0) 0 1) : o_X7_go S a := (go_m 82 a S).2 h
theorem go_0 {S : CS} (hx : RX t L S) (hL : L ≤ 80) (ht : ∀ i, t i < 65536) : o_X7_go S 0 ∧ G4 S (f_X7_go S 0).2 ∧ (f_X7_go S 0).2.1 13 = nI (RD t L 17 0).2.1 ∧ (f_X7_go S 0).2.1 14 = bI (!(RD t L 17 0).1) := by
  have g : G4 S (setI (setI S 13 0) 14 0) := ((show G4 S S from ⟨fun _ _ => rfl, rfl⟩).set _ (by decide) (by decide)).set _ (by decide) (by decide)
  have e1 : (setI (setI S 13 0) 14 0).1 13 = nI (PO t L 0) := (setI_n _ _ (by decide)).trans (setI_s _ _ _)
  have e2 : (setI (setI S 13 0) 14 0).1 14 = 0 := setI_s _ _ _
  rw [go_e]
  have oe := go_oe 0 S
  generalize setI (setI S 13 0) 14 0 = X at *
  have p0 : PO t L 0 = 0 := rfl
  obtain ⟨a, b, c, d⟩ := go0_l hL ht 82 17 0 X (g.rx hx) e1 e2 (by omega) (by omega) (by omega)
  exact ⟨oe a, g.trans b, c, d⟩
/-- one order, carried out by both -/
theorem exec1 {M N E O Z : CS} {k B : Nat} (h : OKB N (Z.2 0) B) (hk : k < 16) (G : GD t L O k) (hw : (OD t L (PO t L k)).2.2.1 ≤ 4) (z15 : Z.1 15 = nI (ltr (OD t L (PO t L k)).2.2.1)) (z16 : Z.1 16 = (OD t L (PO t L k)).2.2.2.1) (z17 : (OD t L (PO t L k)).2.2.1 ≤ 1 → Z.1 17 = (OD t L (PO t L k)).2.2.2.2.1 ∧ Z.1 18 = (OD t L (PO t L k)).2.2.2.2.2) : o_X7_does Z ∧ (f_X6_carryOut M N E O (nI k)).1 = (f_X7_does Z).1 ∧ OKB (f_X6_carryOut M N E O (nI k)).2.1 ((f_X7_does Z).2.2 0) (B + 1) ∧ chg Z (f_X7_does Z).2 := by
  obtain ⟨-, g4, g5, g6⟩ := G
  unfold o_X7_does f_X7_does f_X6_carryOut f_X1_wordOf f_X1_firstOf f_X1_secondOf f_X1_thirdOf
  simp only [at_n _ hk (show 16 < 2 ^ 31 by decide), bind1]
  rw [g4, g5, z15, z16]
  generalize (OD t L (PO t L k)).2.2.1 = w at *
  generalize (OD t L (PO t L k)).2.2.2.1 = v1 at *
  generalize (OD t L (PO t L k)).2.2.2.2.1 = v2 at *
  generalize (OD t L (PO t L k)).2.2.2.2.2 = v3 at *
  rcases (show w = 0 ∨ w = 1 ∨ w = 2 ∨ w = 3 ∨ w = 4 by omega) with rfl | rfl | rfl | rfl | rfl
  · obtain ⟨x6, x7⟩ := g6 (by decide)
    obtain ⟨y6, y7⟩ := z17 (by decide)
    obtain ⟨o, a, b, c⟩ := t_make h M v1 v2 v3
    rw [x6, x7, y6, y7, if_pos (show nI 0 = 0 from rfl), if_neg (show ¬ nI (ltr 0) = 97 by decide), if_neg (show ¬ nI (ltr 0) = 105 by decide), if_neg (show ¬ nI (ltr 0) = 106 by decide), if_neg (show ¬ nI (ltr 0) = 114 by decide)]
    exact ⟨⟨fun z => absurd z (by decide), fun _ => ⟨fun z => absurd z (by decide), fun _ => ⟨fun z => absurd z (by decide), fun _ => ⟨fun z => absurd z (by decide), fun _ => ⟨o, trivial⟩⟩⟩⟩⟩, a, b.mono (by omega), c⟩
  · obtain ⟨x6, x7⟩ := g6 (by decide)
    obtain ⟨y6, y7⟩ := z17 (by decide)
    obtain ⟨o, a, b, c⟩ := t_mix h M v1 v2 v3
    rw [x6, x7, y6, y7, if_neg (show ¬ nI 1 = 0 by decide), if_pos (show nI 1 = 1 from rfl), if_neg (show ¬ nI (ltr 1) = 97 by decide), if_pos (show nI (ltr 1) = 105 by decide)]
    exact ⟨⟨fun z => absurd z (by decide), fun _ => ⟨fun _ => ⟨o, trivial⟩, fun z => absurd (by decide) z⟩⟩, a, b.mono (by omega), c⟩
  · obtain ⟨o, a, b, c⟩ := t_ask h M E v1
    rw [if_neg (show ¬ nI 2 = 0 by decide), if_neg (show ¬ nI 2 = 1 by decide), if_pos (show nI 2 = 2 from rfl), if_pos (show nI (ltr 2) = 97 by decide)]
    exact ⟨⟨fun _ => ⟨o, trivial⟩, fun z => absurd (by decide) z⟩, a, b, c⟩
  · obtain ⟨o, a, b, c⟩ := t_root h M E v1
    rw [if_neg (show ¬ nI 3 = 0 by decide), if_neg (show ¬ nI 3 = 1 by decide), if_neg (show ¬ nI 3 = 2 by decide), if_pos (show nI 3 = 3 from rfl), if_neg (show ¬ nI (ltr 3) = 97 by decide), if_neg (show ¬ nI (ltr 3) = 105 by decide), if_neg (show ¬ nI (ltr 3) = 106 by decide), if_pos (show nI (ltr 3) = 114 by decide)]
    exact ⟨⟨fun z => absurd z (by decide), fun _ => ⟨fun z => absurd z (by decide), fun _ => ⟨fun z => absurd z (by decide), fun _ => ⟨fun _ => ⟨o, trivial⟩, fun z => absurd (by decide) z⟩⟩⟩⟩, a, b.mono (by omega), c⟩
  · obtain ⟨o, a, b, c⟩ := t_join h M E v1
    rw [if_neg (show ¬ nI 4 = 0 by decide), if_neg (show ¬ nI 4 = 1 by decide), if_neg (show ¬ nI 4 = 2 by decide), if_neg (show ¬ nI 4 = 3 by decide), if_neg (show ¬ nI (ltr 4) = 97 by decide), if_neg (show ¬ nI (ltr 4) = 105 by decide), if_pos (show nI (ltr 4) = 106 by decide)]
    exact ⟨⟨fun z => absurd z (by decide), fun _ => ⟨fun z => absurd z (by decide), fun _ => ⟨fun _ => ⟨o, trivial⟩, fun z => absurd (by decide) z⟩⟩⟩, a, b.mono (by omega), c⟩
end GOS
