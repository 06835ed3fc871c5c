/-! PURE PART. costs -/
def iT (s : Nat → Int32) (v i : Nat) : Bool := pB s i && decide (rT s i = rT s v)
theorem iT_iff {s : Nat → Int32} {v i : Nat} : iT s v i = true ↔ inT s v i := by
  unfold iT inT
  rw [Bool.and_eq_true, pB_iff, decide_eq_true_iff]
def csum (s : Nat → Int32) (v : Nat) : Nat → Int32
  | 0 => 0
  | i + 1 => csum s v i + (if iT s v i = true then s (13 * i + 4) * (1 + nI (yC s i v)) else 0)
theorem sw_row {S Z : CS} (h : sw S Z) : Z.2 0 = S.2 0 := h.2 0 (by decide)
section COST
variable {N : CS} {S : CS} {n : Nat}
theorem cost6 (h : OKS N (S.2 0) n) {v : Nat} (hv : rP (S.2 0) v) {E : CS} (hE : SPR (S.2 0) v E) : l_X6_costFrom_16 N E 25 0 0 = (csum (S.2 0) v 24, E) := by
  have R := h.2.2.1
  have key : ∀ (m i : Nat), i ≤ 24 → i + m = 25 → l_X6_costFrom_16 N E m (csum (S.2 0) v i) i = (csum (S.2 0) v 24, E) := by
    intro m
    induction m with
    | zero => intro i h1 h2; omega
    | succ m ih =>
      intro i h1 h2
      rw [l_X6_costFrom_16]
      by_cases q : i < 24
      · have k := ih (i + 1) (by omega) (by omega)
        rw [csum] at k
        rw [if_pos q, isIn_nI q]
        by_cases c : inT (S.2 0) v i
        · rw [if_pos (iT_iff.mpr c)] at k
          rw [if_pos ((hE.1 i (by omega)).mpr c), asked_n R c.1, (steps_n hE c).2]
          exact k
        · rw [if_neg (fun z => c (iT_iff.mp z)), Int32.add_zero] at k
          rw [if_neg (fun z => c ((hE.1 i (by omega)).mp z))]
          exact k
      · have : i = 24 := by omega
        subst this
        rw [if_neg q]
        rfl
  exact key 25 0 (by decide) (by decide)
theorem cost6' (h : OKS N (S.2 0) n) {v : Nat} (hv : rP (S.2 0) v) (M E : CS) : (f_X6_costFrom M N E (nI v)).1 = csum (S.2 0) v 24 := by
  have hE := spread_n h.1 h.2.2.1 hv E
  show (l_X6_costFrom_16 N (f_X2_spread E N (nI v)) 25 0 0).1 = _
  rw [cost6 h hv hE]
theorem cost7 (h : OKS N (S.2 0) n) {v : Nat} (hv : rP (S.2 0) v) : o_X7_costOf S (nI v) ∧ (f_X7_costOf S (nI v)).1 = csum (S.2 0) v 24 ∧ sw S (f_X7_costOf S (nI v)).2 := by
  obtain ⟨W, L, R, -⟩ := h
  have T := W.tr
  obtain ⟨o0, e0⟩ := top_n W hv
  have tlt : rT (S.2 0) v < 24 := (tp_P T hv).1.1
  have key : ∀ (m i : Nat) (Z : CS), sw S Z → i ≤ 24 → i + m = 25 → ol_X7_costOf_11 S (nI v) m Z (csum (S.2 0) v i) i ∧ (l_X7_costOf_11 S (nI v) m Z (csum (S.2 0) v i) i).1 = csum (S.2 0) v 24 ∧ sw S (l_X7_costOf_11 S (nI v) m Z (csum (S.2 0) v i) i).2 := by
    intro m
    induction m with
    | zero => intro i Z _ h1 h2; omega
    | succ m ih =>
      intro i Z hZ h1 h2
      have z0 := sw_row hZ
      rw [ol_X7_costOf_11, l_X7_costOf_11]
      simp only [bind1]
      by_cases q : i < 24
      · have k : ∀ Z', sw S Z' → _ := fun Z' hZ' => ih (i + 1) Z' hZ' (by omega) (by omega)
        rw [csum] at k
        rw [if_pos q, cl0 q, cl4 q, e0, z0, Int32.add_zero]
        by_cases c : S.2 0 (13 * i) = 1
        · have hi : rP (S.2 0) i := ⟨q, c⟩
          obtain ⟨o1, e1⟩ := top_n (S := Z) (by rw [z0]; exact W) (v := i) (by rw [z0]; exact hi)
          rw [z0] at e1
          have ilt : rT (S.2 0) i < 24 := (tp_P T hi).1.1
          have y : nI (rT (S.2 0) i) = nI (rT (S.2 0) v) ↔ rT (S.2 0) i = rT (S.2 0) v := nI_eq (by omega) (by omega)
          rw [if_pos c, e1]
          by_cases d : rT (S.2 0) i = rT (S.2 0) v
          · rw [if_pos (iT_iff.mpr ⟨hi, d⟩)] at k
            obtain ⟨o2, s1, -, l2, -⟩ := lay_n (S := Z) (by rw [z0]; exact W) (x := v) (v := i) (by rw [z0]; exact hv) (by rw [z0]; exact hi) (by rw [z0]; exact d.symm)
            have e2 : (f_X7_cellsBetween Z (nI v) (nI i)).1 = nI (yC (S.2 0) i v) := by
              show (f_X7_layWay Z (nI v) (nI i)).1 12 = _
              rw [l2, z0]
              exact congrArg nI (CC_comm _ _ _ _ _)
            have e3 : (f_X7_cellsBetween Z (nI v) (nI i)).2 = f_X7_layWay Z (nI v) (nI i) := rfl
            rw [if_pos (y.mpr d), e2, e3]
            obtain ⟨k1, k2⟩ := k (f_X7_layWay Z (nI v) (nI i)) (hZ.trans s1)
            exact ⟨⟨fun _ => ⟨vi0 q, fun _ => ⟨o1, fun _ => ⟨vi4 q, ⟨o2, trivial⟩, k1⟩, fun z => absurd (y.mpr d) z⟩, fun z => absurd c z⟩, fun z => absurd q z⟩, k2⟩
          · rw [if_neg (fun z => d (iT_iff.mp z).2), Int32.add_zero] at k
            rw [if_neg (fun z => d (y.mp z))]
            obtain ⟨k1, k2⟩ := k Z hZ
            exact ⟨⟨fun _ => ⟨vi0 q, fun _ => ⟨o1, fun z => absurd (y.mp z) d, fun _ => k1⟩, fun z => absurd c z⟩, fun z => absurd q z⟩, k2⟩
        · rw [if_neg (fun z => c (iT_iff.mp z).1.2), Int32.add_zero] at k
          rw [if_neg c]
          obtain ⟨k1, k2⟩ := k Z hZ
          exact ⟨⟨fun _ => ⟨vi0 q, fun z => absurd z c, fun _ => k1⟩, fun z => absurd q z⟩, k2⟩
      · have : i = 24 := by omega
        subst this
        rw [if_neg q]
        exact ⟨⟨fun z => absurd z q, fun _ => trivial⟩, rfl, hZ⟩
  obtain ⟨k1, k2, k3⟩ := key 25 0 S (sw.rf S) (by decide) (by decide)
  exact ⟨⟨o0, k1⟩, k2, k3⟩
theorem csum_le (h : OKS N (S.2 0) n) (hn : n ≤ 512) {v : Nat} (hv : rP (S.2 0) v) : ∀ i, i ≤ 24 → ∃ m, m ≤ i * 9446400 ∧ csum (S.2 0) v i = nI m := by
  intro i
  induction i with
  | zero => intro _; exact ⟨0, Nat.le_refl _, rfl⟩
  | succ i ih =>
    intro hi
    obtain ⟨m, m1, m2⟩ := ih (by omega)
    rw [csum, m2]
    by_cases c : iT (S.2 0) v i = true
    · have c' := iT_iff.mp c
      obtain ⟨k, k1, k2⟩ := h.2.2.2 i c'.1
      have w := wC_le h.1 c'.1 hv c'.2
      rw [if_pos c, k2, show (1 : Int32) + nI (yC (S.2 0) i v) = nI (1 + yC (S.2 0) i v) from nI_add 1 _, pk_mul, nI_add]
      refine ⟨_, ?_, rfl⟩
      have : k * (1 + yC (S.2 0) i v) ≤ 25600 * 369 := Nat.mul_le_mul (by omega) (by omega)
      omega
    · rw [if_neg c]
      exact ⟨m, Nat.le_trans m1 (Nat.mul_le_mul_right _ (Nat.le_succ i)), Int32.add_zero _⟩
end COST
theorem sim_ifRoot (M : CS) (N : CS) (F : CS) (P : CS) (Q : HS) (E : CS) (O : CS) (S : CS) (n : Nat) (a1 : Int32) (h : REL M N F P Q E O S n) (hn : n < 512) : True ∧ (o_X7_ifRoot S a1) ∧ (f_X6_ifRoot M N E a1).1 = (f_X7_ifRoot S a1).1 ∧ REL M N F P Q ((f_X6_ifRoot M N E a1).2) O ((f_X7_ifRoot S a1).2) (n + 1) := by
  have K := h.1
  refine ⟨trivial, ?_⟩
  unfold o_X7_ifRoot f_X6_ifRoot f_X7_ifRoot
  rcases ver_c K a1 with ⟨q1, q2, q3⟩ | ⟨v, hv, rfl, q1, q2, q3⟩
  · rw [q1, q3]
    exact ⟨⟨q2, fun k => (by cases k), fun _ => trivial⟩, rfl, rel_mono h⟩
  · obtain ⟨o, e, w⟩ := cost7 K hv
    have e6 := cost6' K hv M E
    rw [q1, q3, if_pos rfl, if_pos rfl]
    refine ⟨⟨q2, fun _ => ⟨o, trivial⟩, fun k => absurd rfl k⟩, ?_, rel_sw (rel_mono h) w⟩
    show (f_X6_costFrom M N E (nI v)).1 = (f_X7_costOf S (nI v)).1
    rw [e6, e]
