/-! PURE PART. the reference's reader: cells, words -/
section CLR
variable {t : Nat → Nat} {L : Nat}
theorem nxt_w {S : CS} (a b : Int32) (ew : S.1 14 = bI true) : o_X7_isNext S a b ∧ f_X7_isNext S a b = false := by
  have z : ¬ S.1 14 = 0 := by rw [ew]; decide
  unfold o_X7_isNext f_X7_isNext
  rw [if_neg z]
  exact ⟨⟨fun k => absurd k z, fun _ => trivial⟩, rfl⟩
theorem c38_w {S : CS} (n : Nat) (x y : Int32) (ew : S.1 14 = bI true) : (l_X7_cells_38 (n + 1) S x y = (x, S) ∧ ol_X7_cells_38 (n + 1) S x y) ∧ (l_X7_cells_38c (n + 1) S x y = (x, S) ∧ ol_X7_cells_38c (n + 1) S x y) := by
  obtain ⟨o, f⟩ := nxt_w (y + 1) 55 ew
  rw [l_X7_cells_38, ol_X7_cells_38, l_X7_cells_38c, ol_X7_cells_38c, f, if_neg (by decide), if_neg (by decide)]
  exact ⟨⟨rfl, o, fun k => (by cases k), fun _ => trivial⟩, ⟨rfl, o, fun k => (by cases k), fun _ => trivial⟩⟩
theorem c38_l (hL : L ≤ 80) (ht : ∀ i, t i < 65536) : ∀ (n p lo : Nat) (x : Int32) (S : CS), RX t L S → S.1 13 = nI p → S.1 14 = bI false → 8 < n + lo → lo ≤ 8 → p ≤ L → ol_X7_cells_38b n S x (nI (47 + lo)) ∧ (l_X7_cells_38b n S x (nI (47 + lo))).1 = (cl t L n p lo x).1 ∧ SG S (l_X7_cells_38b n S x (nI (47 + lo))).2 false (cl t L n p lo x).2 := by
  intro n
  induction n with
  | zero => intro p lo x S h1 h2 h3 h4; omega
  | succ n ih =>
    intro p lo x S hx e ew h4 h5 hp
    have tp := ht p
    have e1 : nI (47 + lo) + 1 = nI (48 + lo) := by rw [nI_1]; congr 1; omega
    obtain ⟨on, xn⟩ := nxt_n (a := 48 + lo) (b := 55) hx hL ht hp (by omega) (by decide) e ew
    rw [show nI 55 = (55 : Int32) from rfl] at on xn
    rw [ol_X7_cells_38b, l_X7_cells_38b, cl, e1]
    by_cases c : f_X7_isNext S (nI (48 + lo)) 55 = true
    · obtain ⟨-, c1, c2, c3⟩ := xn.mp c
      have iv : vp_in (S.1 13) 80 := by rw [e]; exact vp_in_nI (by omega) (by decide)
      have ec : S.2 6 (S.1 13).toNatClampNeg = nI (t p) := by rw [e, nI_clamp (by omega), hx.2 p c1]
      have s1 : SG S (setI S 13 (S.1 13 + 1)) false (p + 1) := sg_p S ew (by rw [e]; exact nI_1 p)
      have e2 : nI (t p) - 48 = nI (t p - 48) := by rw [show (48 : Int32) = nI 48 from rfl, pk_sub (by omega)]
      have e3 : nI (t p) = nI (47 + (t p - 48 + 1)) := congrArg nI (by omega)
      obtain ⟨o, a1, a2⟩ := ih (p + 1) (t p - 48 + 1) (x ||| f_X4_of (nI (t p - 48))) (setI S 13 (S.1 13 + 1)) (s1.rx hx) s1.2.2.1 s1.2.2.2 (by omega) (by omega) (by omega)
      simp only [bind1]
      rw [if_pos c, if_pos (show p < L ∧ 48 + lo ≤ t p ∧ t p ≤ 55 from ⟨c1, c2, c3⟩), ec, e2]
      rw [← e3] at o a1 a2
      exact ⟨⟨on, fun _ => ⟨iv, o⟩, fun k => absurd c k⟩, a1, s1.trans a2⟩
    · have d : ¬ (p < L ∧ 48 + lo ≤ t p ∧ t p ≤ 55) := fun k => c (xn.mpr ⟨rfl, k⟩)
      rw [if_neg c, if_neg d]
      exact ⟨⟨on, fun k => absurd k c, fun _ => trivial⟩, rfl, sg_r e ew⟩
theorem cells_r {S : CS} {p : Nat} {w : Bool} (hx : RX t L S) (hL : L ≤ 80) (ht : ∀ i, t i < 65536) (hp : p ≤ L) (e : S.1 13 = nI p) (ew : S.1 14 = bI w) : o_X7_cells S ∧ SG S (f_X7_cells S).2 (eW t L w p) (eP t L w p) ∧ (eW t L w p = false → (f_X7_cells S).1 = (CE t L p).2.1) := by
  obtain ⟨os, ss⟩ := sign_r (c := 32) hx hL ht hp (by decide) e ew
  rw [show nI 32 = (32 : Int32) from rfl] at os ss
  unfold o_X7_cells f_X7_cells
  simp only [bind1]
  generalize f_X7_sign S 32 = Y at *
  have hY := ss.rx hx
  have pY : sP t L w p 32 ≤ L := sP_le hp
  obtain ⟨on, xn⟩ := nxt_n (a := 48) (b := 55) hY hL ht pY (by decide) (by decide) ss.2.2.1 ss.2.2.2
  rw [show nI 48 = (48 : Int32) from rfl, show nI 55 = (55 : Int32) from rfl] at on xn
  unfold eW eP CE
  unfold sW sP at *
  cases w with
  | true =>
    rw [Bool.true_or, if_pos rfl] at ss
    have z : ¬ Y.1 14 = 0 := by rw [ss.2.2.2]; decide
    have s1 := sg_w Y (a := 1) (w := true) rfl ss.2.2.1
    obtain ⟨⟨l1, l2⟩, -⟩ := c38_w 9 0 47 s1.2.2.2
    have l1 : l_X7_cells_38 10 (setI Y 14 1) 0 47 = _ := l1
    rw [if_neg z, Bool.true_or, if_pos rfl, l1]
    exact ⟨⟨os, fun k => absurd k z, fun _ => l2⟩, ss.trans s1, fun k => (by cases k)⟩
  | false =>
    rw [if_neg (show ¬ false = true by decide)] at *
    by_cases a : tq t L p 32 = true
    · rw [a, if_pos rfl] at ss xn pY
      rw [if_pos a]
      have z : Y.1 14 = 0 := by rw [ss.2.2.2]; decide
      rw [if_pos z]
      by_cases c : f_X7_isNext Y 48 55 = true
      · obtain ⟨-, c1, c2, c3⟩ := xn.mp c
        have s1 : SG Y (setI Y 14 0) false (p + 1) := sg_w Y rfl ss.2.2.1
        have s2 := ss.trans s1
        obtain ⟨o, a1, a2⟩ := c38_l hL ht 10 (p + 1) 0 0 (setI Y 14 0) (s2.rx hx) s2.2.2.1 s2.2.2.2 (by decide) (by decide) (by omega)
        have o : ol_X7_cells_38b 10 (setI Y 14 0) 0 47 := o
        have a1 : (l_X7_cells_38b 10 (setI Y 14 0) 0 47).1 = _ := a1
        have a2 : SG (setI Y 14 0) (l_X7_cells_38b 10 (setI Y 14 0) 0 47).2 false _ := a2
        rw [if_pos c, if_pos (show p + 1 < L ∧ 48 ≤ t (p + 1) ∧ t (p + 1) ≤ 55 from ⟨c1, c2, c3⟩)]
        exact ⟨⟨os, fun _ => ⟨on, fun _ => o, fun k => absurd c k⟩, fun k => absurd z k⟩, s2.trans a2, fun _ => a1⟩
      · have d : ¬ (p + 1 < L ∧ 48 ≤ t (p + 1) ∧ t (p + 1) ≤ 55) := fun k => c (xn.mpr ⟨rfl, k⟩)
        have s1 := sg_w Y (a := 1) (w := true) rfl ss.2.2.1
        obtain ⟨-, l1, l2⟩ := c38_w 9 0 47 s1.2.2.2
        have l1 : l_X7_cells_38c 10 (setI Y 14 1) 0 47 = _ := l1
        rw [if_neg c, if_neg d, l1]
        exact ⟨⟨os, fun _ => ⟨on, fun k => absurd k c, fun _ => l2⟩, fun k => absurd z k⟩, ss.trans s1, fun k => (by cases k)⟩
    · have a' : tq t L p 32 = false := by simpa using a
      rw [a', if_neg (show ¬ false = true by decide)] at ss
      rw [if_neg a]
      have z : ¬ Y.1 14 = 0 := by rw [ss.2.2.2]; decide
      have s1 := sg_w Y (a := 1) (w := true) rfl ss.2.2.1
      obtain ⟨⟨l1, l2⟩, -⟩ := c38_w 9 0 47 s1.2.2.2
      have l1 : l_X7_cells_38 10 (setI Y 14 1) 0 47 = _ := l1
      rw [if_neg z, l1]
      exact ⟨⟨os, fun k => absurd k z, fun _ => l2⟩, ss.trans s1, fun k => (by cases k)⟩
/-! a word by its signs -/
theorem al_0 {f : Nat → Nat} {p r i : Nat} (h : ¬ tq t L (p + i) (f i) = true) : al t L f p r i = 0 := by
  cases r with
  | zero => rfl
  | succ r => rw [al, if_neg h]
theorem al_s {f : Nat → Nat} {p r i : Nat} (h : tq t L (p + i) (f i) = true) : al t L f p (r + 1) i = al t L f p r (i + 1) + 1 := by rw [al, if_pos h]
theorem tq_no {p a b : Nat} (h : tq t L p a = true) (n : a ≠ b) : ¬ tq t L p b = true := fun k => n ((tq_i.mp h).2.symm.trans (tq_i.mp k).2)
/-- what a word is, by its first signs -/
theorem WD_a {p : Nat} (h : tq t L p 97 = true) : WD t L p = if aw t L p 2 = 3 then (2, p + 3) else (5, p + aw t L p 2) := by
  have a0 : aw t L p 0 = 0 := al_0 (tq_no h (by decide))
  have a1 : aw t L p 1 = 0 := al_0 (tq_no h (by decide))
  have a3 : aw t L p 3 = 0 := al_0 (tq_no h (by decide))
  have a4 : aw t L p 4 = 0 := al_0 (tq_no h (by decide))
  unfold WD
  rw [a0, a1, a3, a4, if_neg (by decide), if_neg (by decide), if_neg (show ¬ (0 : Nat) = 4 by decide), if_neg (show ¬ (0 : Nat) = 4 by decide)]
  congr 3 <;> omega
theorem WD_r {p : Nat} (h : tq t L p 114 = true) : WD t L p = if aw t L p 3 = 4 then (3, p + 4) else (5, p + aw t L p 3) := by
  have a0 : aw t L p 0 = 0 := al_0 (tq_no h (by decide))
  have a1 : aw t L p 1 = 0 := al_0 (tq_no h (by decide))
  have a2 : aw t L p 2 = 0 := al_0 (tq_no h (by decide))
  have a4 : aw t L p 4 = 0 := al_0 (tq_no h (by decide))
  unfold WD
  rw [a0, a1, a2, a4, if_neg (by decide), if_neg (by decide), if_neg (show ¬ (0 : Nat) = 3 by decide), if_neg (show ¬ (0 : Nat) = 4 by decide)]
  congr 3 <;> omega
theorem WD_j {p : Nat} (h : tq t L p 106 = true) : WD t L p = if aw t L p 4 = 4 then (4, p + 4) else (5, p + aw t L p 4) := by
  have a0 : aw t L p 0 = 0 := al_0 (tq_no h (by decide))
  have a1 : aw t L p 1 = 0 := al_0 (tq_no h (by decide))
  have a2 : aw t L p 2 = 0 := al_0 (tq_no h (by decide))
  have a3 : aw t L p 3 = 0 := al_0 (tq_no h (by decide))
  unfold WD
  rw [a0, a1, a2, a3, if_neg (by decide), if_neg (by decide), if_neg (show ¬ (0 : Nat) = 3 by decide), if_neg (show ¬ (0 : Nat) = 4 by decide)]
  congr 3 <;> omega
theorem WD_i {p : Nat} (h : tq t L p 109 = true) (h2 : tq t L (p + 1) 105 = true) : WD t L p = if aw t L p 1 = 3 then (1, p + 3) else (5, p + aw t L p 1) := by
  have a0 : aw t L p 0 = 1 := (al_s (r := 3) (i := 0) h).trans (congrArg (· + 1) (al_0 (i := 1) (tq_no h2 (by decide))))
  have a2 : aw t L p 2 = 0 := al_0 (tq_no h (by decide))
  have a3 : aw t L p 3 = 0 := al_0 (tq_no h (by decide))
  have a4 : aw t L p 4 = 0 := al_0 (tq_no h (by decide))
  have a1 : aw t L p 1 = al t L (wc 1) p 1 2 + 1 + 1 := (al_s (r := 2) (i := 0) h).trans (congrArg (· + 1) (al_s (r := 1) (i := 1) h2))
  unfold WD
  rw [a0, a2, a3, a4, if_neg (by decide), if_neg (show ¬ (0 : Nat) = 3 by decide), if_neg (show ¬ (0 : Nat) = 4 by decide), if_neg (show ¬ (0 : Nat) = 4 by decide)]
  congr 3 <;> omega
theorem WD_m {p : Nat} (n1 : ¬ tq t L p 97 = true) (n2 : ¬ tq t L p 114 = true) (n3 : ¬ tq t L p 106 = true) (n4 : ¬ (tq t L p 109 = true ∧ tq t L (p + 1) 105 = true)) : WD t L p = if aw t L p 0 = 4 then (0, p + 4) else (5, p + aw t L p 0) := by
  have a2 : aw t L p 2 = 0 := al_0 n1
  have a3 : aw t L p 3 = 0 := al_0 n2
  have a4 : aw t L p 4 = 0 := al_0 n3
  have a1 : aw t L p 1 ≤ 1 ∧ (aw t L p 1 = 1 → 1 ≤ aw t L p 0) := by
    by_cases h : tq t L p 109 = true
    · have h2 : ¬ tq t L (p + 1) 105 = true := fun k => n4 ⟨h, k⟩
      have e1 : aw t L p 1 = 1 := (al_s (r := 2) (i := 0) h).trans (congrArg (· + 1) (al_0 (i := 1) h2))
      have e0 : aw t L p 0 = al t L (wc 0) p 3 1 + 1 := al_s (r := 3) (i := 0) h
      omega
    · have e1 : aw t L p 1 = 0 := al_0 h
      omega
  unfold WD
  rw [a2, a3, a4, if_neg (show ¬ aw t L p 1 = 3 by omega), if_neg (show ¬ (0 : Nat) = 3 by decide), if_neg (show ¬ (0 : Nat) = 4 by decide), if_neg (show ¬ (0 : Nat) = 4 by decide)]
  congr 3 <;> omega
/-- the signs of a word, one behind the other -/
theorem ch_al (f : Nat → Nat) (p : Nat) : ∀ (r i : Nat) (W : Nat → Bool) (Q : Nat → Nat), Q i = p + i → W i = false → (∀ k, i ≤ k → k < i + r → W (k + 1) = sW t L (W k) (Q k) (f k) ∧ Q (k + 1) = sP t L (W k) (Q k) (f k)) → W (i + r) = !decide (al t L f p r i = r) ∧ Q (i + r) = p + i + al t L f p r i := by
  have wr : ∀ (r i : Nat) (W : Nat → Bool) (Q : Nat → Nat), W i = true → (∀ k, i ≤ k → k < i + r → W (k + 1) = sW t L (W k) (Q k) (f k) ∧ Q (k + 1) = sP t L (W k) (Q k) (f k)) → W (i + r) = true ∧ Q (i + r) = Q i := by
    intro r
    induction r with
    | zero => intro i W Q h _; exact ⟨h, rfl⟩
    | succ r ih =>
      intro i W Q h hs
      obtain ⟨a, b⟩ := hs i (Nat.le_refl _) (by omega)
      have a2 : W (i + 1) = true := by rw [a, h]; rfl
      have b2 : Q (i + 1) = Q i := by rw [b, h]; rfl
      obtain ⟨c, d⟩ := ih (i + 1) W Q a2 (fun k h1 h2 => hs k (by omega) (by omega))
      rw [show i + (r + 1) = i + 1 + r by omega]
      exact ⟨c, d.trans b2⟩
  intro r
  induction r with
  | zero => intro i W Q h1 h2 _; exact ⟨by rw [Nat.add_zero, h2]; rfl, h1⟩
  | succ r ih =>
    intro i W Q h1 h2 hs
    obtain ⟨a, b⟩ := hs i (Nat.le_refl _) (by omega)
    rw [show i + (r + 1) = i + 1 + r by omega]
    by_cases c : tq t L (p + i) (f i) = true
    · have a2 : W (i + 1) = false := by rw [a, h2, h1]; unfold sW; rw [c]; rfl
      have b2 : Q (i + 1) = p + (i + 1) := by rw [b, h2, h1]; unfold sP; rw [if_neg (by decide), if_pos c]; omega
      obtain ⟨d, e⟩ := ih (i + 1) W Q b2 a2 (fun k h1 h2 => hs k (by omega) (by omega))
      rw [al_s c]
      refine ⟨d.trans ?_, by rw [e]; omega⟩
      congr 1
      exact decide_eq_decide.mpr ⟨fun k => by omega, fun k => by omega⟩
    · have c' : tq t L (p + i) (f i) = false := by simpa using c
      have a2 : W (i + 1) = true := by rw [a, h2, h1]; unfold sW; rw [c']; rfl
      have b2 : Q (i + 1) = p + i := by rw [b, h2, h1]; unfold sP; rw [if_neg (by decide), if_neg c]
      obtain ⟨d, e⟩ := wr r (i + 1) W Q a2 (fun k h1 h2 => hs k (by omega) (by omega))
      rw [al_0 c, d, e, b2]
      exact ⟨by simp, rfl⟩
end CLR
