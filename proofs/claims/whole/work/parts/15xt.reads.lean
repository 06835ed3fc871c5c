/-! PURE PART. the class reads a text -/
section RDP
variable (t : Nat → Nat) (L : Nat)
/-- where the k-th order begins -/
def PO : Nat → Nat
  | 0 => 0
  | k + 1 => (OD t L (PO k)).2.1 + 1
/-- the whole text from the i-th order on: has it no fault, where reading ends, how many orders -/
def RD : Nat → Nat → Bool × Nat × Nat
  | 0, i => (false, 0, i)
  | n + 1, i => if (OD t L (PO t L i)).1 = true then (if (OD t L (PO t L i)).2.1 < L then (if tq t L (OD t L (PO t L i)).2.1 59 = true then RD n (i + 1) else (false, (OD t L (PO t L i)).2.1, i + 1)) else (true, (OD t L (PO t L i)).2.1, i + 1)) else (false, (OD t L (PO t L i)).2.1, i)
end RDP
section RDL
variable {t : Nat → Nat} {L : Nat}
theorem RD_fuel : ∀ (n n' i : Nat), PO t L i ≤ L → L < 6 * n + PO t L i → L < 6 * n' + PO t L i → RD t L n i = RD t L n' i := by
  intro n
  induction n with
  | zero => intro n' i h0 h1 h2; omega
  | succ n ih =>
    intro n' i h0 h1 h2
    cases n' with
    | zero => omega
    | succ n' =>
      rw [RD, RD]
      obtain ⟨a, b, c⟩ := OD_le (t := t) h0
      by_cases x : (OD t L (PO t L i)).1 = true
      · rw [if_pos x, if_pos x]
        by_cases y : (OD t L (PO t L i)).2.1 < L
        · rw [if_pos y, if_pos y]
          by_cases z : tq t L (OD t L (PO t L i)).2.1 59 = true
          · have e : PO t L (i + 1) = (OD t L (PO t L i)).2.1 + 1 := rfl
            have := c x
            rw [if_pos z, if_pos z]
            exact ih n' (i + 1) (by omega) (by omega) (by omega)
          · rw [if_neg z, if_neg z]
        · rw [if_neg y, if_neg y]
      · rw [if_neg x, if_neg x]
/-- the k-th order stands in the rows -/
def GD (t : Nat → Nat) (L : Nat) (O : CS) (k : Nat) : Prop := (OD t L (PO t L k)).1 = true ∧ O.2 4 k = nI (OD t L (PO t L k)).2.2.1 ∧ O.2 5 k = (OD t L (PO t L k)).2.2.2.1 ∧ ((OD t L (PO t L k)).2.2.1 ≤ 1 → O.2 6 k = (OD t L (PO t L k)).2.2.2.2.1 ∧ O.2 7 k = (OD t L (PO t L k)).2.2.2.2.2)
/-- the class's text is read as the plan says -/
def RDC (t : Nat → Nat) (L : Nat) (O O' : CS) (r : Bool × Nat × Nat) : Prop := O'.1 1 = O.1 1 ∧ O'.2 0 = O.2 0 ∧ O'.1 2 = nI r.2.1 ∧ (r.1 = true → O'.1 3 = nI r.2.2 ∧ r.2.2 ≤ 14 ∧ ∀ k, k < r.2.2 → GD t L O' k)
theorem read_l (hL : L ≤ 80) (ht : ∀ i, t i < 65536) : ∀ (n i : Nat) (O : CS), CX t L O → O.1 2 = nI (PO t L i) → O.1 3 = nI i → 6 * i ≤ PO t L i → PO t L i ≤ L → 16 < n + i → (∀ k, k < i → GD t L O k) → ol_X1_read_12 n O i ∧ (l_X1_read_12 n O i).1 = (RD t L n i).1 ∧ RDC t L O (l_X1_read_12 n O i).2 (RD t L n i) := by
  intro n
  induction n with
  | zero => intro i O h1 h2 h3 h4 h5 h6; omega
  | succ n ih =>
    intro i O hO e2 e3 h4 h5 h6 hG
    have hi : i < 14 := by omega
    rw [ol_X1_read_12, l_X1_read_12, RD]
    simp only [bind1]
    obtain ⟨o1, r1, r2, r3, r4⟩ := order_n hO hL ht h5 (show i < 16 by omega) e2 e3
    obtain ⟨a, b, c⟩ := OD_le (t := t) h5
    rw [if_pos (show i < 16 by omega)]
    generalize f_X1_readOrder O = Y at *
    rw [r1]
    by_cases x : (OD t L (PO t L i)).1 = true
    · have r4 := r4 x
      have c := c x
      rw [if_pos x, if_pos x]
      have y3 : Y.2.1 3 = nI i := (r2.1 3 (by decide)).trans e3
      have s1 : (setI Y.2 3 (Y.2.1 3 + 1)).1 3 = nI (i + 1) := by rw [setI_s, y3]; exact nI_1 i
      have s2 : (setI Y.2 3 (Y.2.1 3 + 1)).1 2 = nI (OD t L (PO t L i)).2.1 := (setI_n Y.2 _ (by decide)).trans r2.2
      have s3 : (setI Y.2 3 (Y.2.1 3 + 1)).1 1 = O.1 1 := (setI_n Y.2 _ (by decide)).trans (r2.1 1 (by decide))
      have s4 : (setI Y.2 3 (Y.2.1 3 + 1)).2 = Y.2.2 := rfl
      generalize setI Y.2 3 (Y.2.1 3 + 1) = Z at *
      have hZ : CX t L Z := ⟨s3.trans hO.1, fun k hk => by rw [s4, r3]; exact hO.2 k hk⟩
      have GZ : ∀ k, k < i + 1 → GD t L Z k := by
        intro k hk
        unfold GD
        rw [s4]
        by_cases q : k = i
        · subst q
          exact ⟨x, r4.2.1, r4.2.2.1, r4.2.2.2⟩
        · obtain ⟨g1, g2, g3, g4⟩ := hG k (by omega)
          obtain ⟨u1, u2, u3, u4⟩ := r4.1 k q
          exact ⟨g1, by rw [u1]; exact g2, by rw [u2]; exact g3, fun h => by rw [u3, u4]; exact g4 h⟩
      have q : nI (OD t L (PO t L i)).2.1 < nI L ↔ (OD t L (PO t L i)).2.1 < L := nI_ltI (by omega) (by omega)
      rw [s2, hZ.1]
      by_cases y : (OD t L (PO t L i)).2.1 < L
      · rw [if_pos (q.mpr y), if_pos y, show (59 : Int32) = nI 59 from rfl, rsign hZ hL ht (by omega) (by decide) s2]
        by_cases w : tq t L (OD t L (PO t L i)).2.1 59 = true
        · have ep : PO t L (i + 1) = (OD t L (PO t L i)).2.1 + 1 := rfl
          have cz := cP.set Z ((OD t L (PO t L i)).2.1 + 1)
          obtain ⟨o2, v1, v2, v3, v4, v5⟩ := ih (i + 1) (setI Z 2 (nI ((OD t L (PO t L i)).2.1 + 1))) (hZ.cP cz rfl) cz.2 ((cz.1 3 (by decide)).trans s1) (by omega) (by omega) (by omega) GZ
          rw [if_pos w, if_pos w]
          dsimp only
          rw [if_pos rfl]
          refine ⟨⟨fun _ => ⟨o1, fun _ => ⟨fun _ => ⟨fun _ => o2, fun _ => trivial⟩, fun k => absurd (q.mpr y) k⟩, fun k => absurd x k⟩, fun k => absurd (show i < 16 by omega) k⟩, v1, ?_, ?_, v4, v5⟩
          · rw [v2]
            exact (cz.1 1 (by decide)).trans s3
          · rw [v3]
            exact (congrFun s4 0).trans r3
        · rw [if_neg w, if_neg w]
          dsimp only
          rw [if_neg (show ¬ false = true by decide)]
          exact ⟨⟨fun _ => ⟨o1, fun _ => ⟨fun _ => ⟨fun k => (by cases k), fun _ => trivial⟩, fun k => absurd (q.mpr y) k⟩, fun k => absurd x k⟩, fun k => absurd (show i < 16 by omega) k⟩, rfl, s3, (congrFun s4 0).trans r3, s2, fun k => (by cases k)⟩
      · rw [if_neg (fun k => y (q.mp k)), if_neg y]
        exact ⟨⟨fun _ => ⟨o1, fun _ => ⟨fun k => absurd (q.mp k) y, fun _ => trivial⟩, fun k => absurd x k⟩, fun k => absurd (show i < 16 by omega) k⟩, rfl, s3, (congrFun s4 0).trans r3, s2, fun _ => ⟨s1, by show i + 1 ≤ 14; omega, GZ⟩⟩
    · rw [if_neg x, if_neg x]
      exact ⟨⟨fun _ => ⟨o1, fun k => absurd k x, fun _ => trivial⟩, fun k => absurd (show i < 16 by omega) k⟩, rfl, r2.1 1 (by decide), r3, r2.2, fun k => (by cases k)⟩
theorem read_m (m : Nat) (O : CS) : (bind1 (setI O 2 0) (fun z1 => (bind1 (setI z1 3 0) (fun z2 => (l_X1_read_12 m z2 0))))) = l_X1_read_12 m (setI (setI O 2 0) 3 0) 0 ∧ (ol_X1_read_12 m (setI (setI O 2 0) 3 0) 0 → (bind1 (setI O 2 0) (fun z1 => (bind1 (setI z1 3 0) (fun z2 => (ol_X1_read_12 m z2 0)))))) := ⟨rfl, id⟩
theorem read_e (O : CS) : f_X1_read O = l_X1_read_12 17 (setI (setI O 2 0) 3 0) 0 := (read_m 17 O).1
theorem read_oe (O : CS) (h : ol_X1_read_12 17 (setI (setI O 2 0) 3 0) 0) : o_X1_read O := (read_m 17 O).2 h
theorem read_n {O : CS} (hO : CX t L O) (hL : L ≤ 80) (ht : ∀ i, t i < 65536) : o_X1_read O ∧ (f_X1_read O).1 = (RD t L 17 0).1 ∧ RDC t L O (f_X1_read O).2 (RD t L 17 0) := by
  have i1 : (setI (setI O 2 0) 3 0).1 1 = O.1 1 := by rw [setI_n _ _ (by decide), setI_n _ _ (by decide)]
  have i2 : (setI (setI O 2 0) 3 0).2 = O.2 := rfl
  have i3 : (setI (setI O 2 0) 3 0).1 2 = nI (PO t L 0) := by rw [setI_n _ _ (by decide), setI_s]; rfl
  have i4 : (setI (setI O 2 0) 3 0).1 3 = nI 0 := setI_s _ _ _
  rw [read_e]
  have oe := read_oe O
  generalize setI (setI O 2 0) 3 0 = X at *
  have h1 : CX t L X := ⟨i1.trans hO.1, fun i hi => by rw [i2]; exact hO.2 i hi⟩
  obtain ⟨a, b, c, d, e⟩ := read_l hL ht 17 0 X h1 i3 i4 (Nat.zero_le _) (Nat.zero_le _) (by decide) (fun k hk => absurd hk (Nat.not_lt_zero _))
  refine ⟨oe a, b, c.trans i1, ?_, e⟩
  rw [d, i2]
/-- an order that stands behind another one is reached by it -/
theorem RD_ok : ∀ (n i : Nat), (RD t L n i).1 = true → i < (RD t L n i).2.2 ∧ ∀ k, i ≤ k → k < (RD t L n i).2.2 → (OD t L (PO t L k)).1 = true ∧ (k + 1 < (RD t L n i).2.2 → (OD t L (PO t L k)).2.1 < L ∧ tq t L (OD t L (PO t L k)).2.1 59 = true) ∧ (k + 1 = (RD t L n i).2.2 → ¬ (OD t L (PO t L k)).2.1 < L) := by
  intro n
  induction n with
  | zero => intro i h; cases h
  | succ n ih =>
    intro i h
    rw [RD] at h ⊢
    by_cases x : (OD t L (PO t L i)).1 = true
    · rw [if_pos x] at h ⊢
      by_cases y : (OD t L (PO t L i)).2.1 < L
      · rw [if_pos y] at h ⊢
        by_cases w : tq t L (OD t L (PO t L i)).2.1 59 = true
        · rw [if_pos w] at h ⊢
          obtain ⟨a, b⟩ := ih (i + 1) h
          refine ⟨by omega, fun k hk hk2 => ?_⟩
          by_cases q : k = i
          · subst q
            exact ⟨x, fun _ => ⟨y, w⟩, fun z => by omega⟩
          · exact b k (by omega) hk2
        · rw [if_neg w] at h
          cases h
      · rw [if_neg y]
        refine ⟨Nat.lt_succ_self i, fun k hk hk2 => ?_⟩
        have hk2 : k < i + 1 := hk2
        have : k = i := by omega
        subst this
        exact ⟨x, fun z => absurd z (Nat.lt_irrefl _), fun _ => y⟩
    · rw [if_neg x] at h
      cases h
end RDL
