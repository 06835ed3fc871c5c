/-! PURE PART. what an act does with the history -/
section ACT
theorem a57 (a : Int32) {k : Nat} (hk : k < 4) : ∀ (m i : Nat) (Z : CS), i ≤ 318 → i + m = 319 → Z.1 3 = nI k → ol_X7_act_57 m Z i ∧ (l_X7_act_57 a m Z i).1 = a ∧ (l_X7_act_57 a m Z i).2.1 3 = nI (k + 1) ∧ (∀ j, j ≠ 3 → (l_X7_act_57 a m Z i).2.1 j = Z.1 j) ∧ (∀ j, j ≠ 2 → (l_X7_act_57 a m Z i).2.2 j = Z.2 j) ∧ (∀ j, i ≤ j → j < 318 → (l_X7_act_57 a m Z i).2.2 2 (318 * k + j) = Z.2 1 j) ∧ ∀ j, (j < 318 * k + i ∨ 318 * k + 318 ≤ j) → (l_X7_act_57 a m Z i).2.2 2 j = Z.2 2 j := by
  intro m
  induction m with
  | zero => intro i Z h1 h2; omega
  | succ m ih =>
    intro i Z h1 h2 h3
    rw [ol_X7_act_57, l_X7_act_57]
    simp only [bind1]
    by_cases q : i < 318
    · have e : (318 * Z.1 3) + nI i = nI (318 * k + i) := by
        rw [h3, show (318 : Int32) = nI 318 from rfl, pk_mul, nI_add]
      rw [if_pos q, e, nI_clamp (by omega)]
      obtain ⟨o, a1, a2, a3, a4, a5, a6⟩ := ih (i + 1) (setF Z 2 (upd (Z.2 2) (318 * k + i) (Z.2 1 i))) (by omega) (by omega) h3
      refine ⟨⟨fun _ => ⟨vp_in_nI (by omega) (by decide), o⟩, fun z => absurd q z⟩, a1, a2, a3, fun j hj => (a4 j hj).trans (setF_n Z _ hj), fun j hj hj2 => ?_, fun j hj => ?_⟩
      · by_cases z : j = i
        · subst z
          rw [a6 _ (by omega), setF_s, pk_us]
        · exact (a5 j (by omega) hj2).trans (congrFun (setF_n Z _ (by decide)) j)
      · rw [a6 j (by omega), setF_s, pk_un (by omega)]
    · rw [if_neg q]
      unfold k_X7_act_91 ok_X7_act_91
      simp only [bind1]
      refine ⟨⟨fun z => absurd z q, fun _ => trivial⟩, trivial, ?_, fun j hj => setI_n Z _ hj, fun _ _ => rfl, fun j a b => by omega, fun _ _ => rfl⟩
      rw [setI_s, h3]
      exact nI_1 k
theorem b57 (a : Int32) : ∀ (m i : Nat) (Z : CS), l_X7_act_57b a m Z i = l_X7_act_57 a m Z i ∧ ol_X7_act_57b m Z i = ol_X7_act_57 m Z i := by
  intro m
  induction m with
  | zero => intro i Z; exact ⟨rfl, rfl⟩
  | succ m ih =>
    intro i Z
    rw [l_X7_act_57b, l_X7_act_57, ol_X7_act_57b, ol_X7_act_57]
    simp only [bind1, (ih _ _).1, (ih _ _).2]
    exact ⟨rfl, rfl⟩
theorem a16 (a : Int32) : ∀ (m i : Nat) (Z : CS), i ≤ 954 → i + m = 955 → ∃ R : CS, R.1 = Z.1 ∧ (∀ j, j ≠ 2 → R.2 j = Z.2 j) ∧ (∀ j, i ≤ j → j < 954 → R.2 2 j = Z.2 2 (318 + j)) ∧ (∀ j, j < i → R.2 2 j = Z.2 2 j) ∧ l_X7_act_16 a m Z i = k_X7_act_45 a R ∧ (ok_X7_act_45 R → ol_X7_act_16 m Z i) := by
  intro m
  induction m with
  | zero => intro i Z h1 h2; omega
  | succ m ih =>
    intro i Z h1 h2
    rw [ol_X7_act_16, l_X7_act_16]
    simp only [bind1]
    by_cases q : i < 954
    · obtain ⟨R, r1, r2, r3, r4, r5, r6⟩ := ih (i + 1) (setF Z 2 (upd (Z.2 2) i (Z.2 2 (318 + i)))) (by omega) (by omega)
      rw [if_pos q]
      refine ⟨R, r1, fun j hj => (r2 j hj).trans (setF_n Z _ hj), fun j hj hj2 => ?_, fun j hj => ?_, r5, fun o => ⟨fun _ => r6 o, fun z => absurd q z⟩⟩
      · by_cases z : j = i
        · subst z
          rw [r4 _ (by omega), setF_s, pk_us]
        · rw [r3 j (by omega) hj2, setF_s, pk_un (by omega)]
      · rw [r4 j (by omega), setF_s, pk_un (by omega)]
    · rw [if_neg q]
      exact ⟨Z, rfl, fun _ _ => rfl, fun j a b => by omega, fun _ _ => rfl, rfl, fun o => ⟨fun z => absurd z q, fun _ => o⟩⟩
theorem puth_n {T : Nat → CS} {p : Nat → Nat} {F R : CS} {n k : Nat} {g : Nat → Int32} {f : Nat → Nat → Int32} (hk : k < 4) (ok : ∀ i, i < 4 → p i < 4) (inj : ∀ i j, i < 4 → j < 4 → p i = p j → i = j) (h1 : ∀ i, i < k → OKS (T (p i)) (f i) n) (h2 : OKS F g n) (e0 : R.1 3 = nI (k + 1)) (e1 : ∀ i j, i < k → j < 318 → R.2 2 (318 * i + j) = f i j) (e2 : ∀ j, j < 318 → R.2 2 (318 * k + j) = g j) : RELH (putH ((nI k, p), T) F) R n := by
  have e : putH ((nI k, p), T) F = ((nI (k + 1), p), va_up T (p k) (f_X5_copyFrom (T (p k)) F)) := by
    unfold putH
    rw [if_neg (show ¬ nI k < 0 from nI_pos (by omega)), if_pos (show nI k < 4 from nI_lt hk (by decide))]
    show ((nI k + 1, p), va_up T (p (nI k).toNatClampNeg) (f_X5_copyFrom (T (p (nI k).toNatClampNeg)) F)) = _
    rw [nI_clamp (by omega), nI_1]
  rw [e]
  refine ⟨k + 1, by omega, rfl, e0, ok, inj, fun i hi => ?_⟩
  by_cases c : i = k
  · subst c
    show OKS (va_up T (p i) _ (p i)) _ n
    rw [show va_up T (p i) (f_X5_copyFrom (T (p i)) F) (p i) = f_X5_copyFrom (T (p i)) F from if_pos rfl]
    exact (h2.copy _).congr e2
  · show OKS (va_up T (p k) _ (p i)) _ n
    rw [show va_up T (p k) (f_X5_copyFrom (T (p k)) F) (p i) = T (p i) from if_neg (fun z => c (inj _ _ (by omega) hk z))]
    exact (h1 i (by omega)).congr (fun j hj => e1 i j (by omega) hj)
theorem k45m (a : Int32) (X : CS) (m : Nat) : bind1 X (fun z7 => l_X7_act_57b a m z7 0) = l_X7_act_57 a m X 0 ∧ (bind1 X (fun z7 => ol_X7_act_57b m z7 0) = ol_X7_act_57 m X 0) := b57 a m 0 X
theorem k45 (a : Int32) (R : CS) : k_X7_act_45 a R = l_X7_act_57 a 319 (setI R 3 (R.1 3 - 1)) 0 := (k45m a (setI R 3 (R.1 3 - 1)) 319).1
theorem ok45 (R : CS) : ok_X7_act_45 R = ol_X7_act_57 319 (setI R 3 (R.1 3 - 1)) 0 := (k45m 0 (setI R 3 (R.1 3 - 1)) 319).2
theorem act_n {Q : HS} {Z F : CS} {n : Nat} {a : Int32} (ha : ¬ a < 0) (h : RELH Q Z n) (hF : OKS F (Z.2 1) n) : o_X7_act Z a ∧ (f_X7_act Z a).1 = a ∧ (∀ j, j ≠ 3 → (f_X7_act Z a).2.1 j = Z.1 j) ∧ (∀ j, j ≠ 2 → (f_X7_act Z a).2.2 j = Z.2 j) ∧ o_X0_record Q F ∧ RELH (f_X0_record Q F) (f_X7_act Z a).2 n := by
  obtain ⟨k, hk, q1, q2, ok, inj, rows⟩ := h
  obtain ⟨⟨sz, p⟩, T⟩ := Q
  have q1 : sz = nI k := q1
  subst q1
  have ok' : ∀ i, i < 4 → p i < 4 := ok
  have inj' : ∀ i j, i < 4 → j < 4 → p i = p j → i = j := inj
  have rows' : ∀ i, i < k → OKS (T (p i)) (rowH (Z.2 2) i) n := rows
  unfold f_X7_act o_X7_act f_X0_record
  rw [if_neg ha]
  by_cases c : k = 4
  · subst c
    have c4 : Z.1 3 = 4 := q2
    obtain ⟨R, r1, r2, r3, -, r5, r6⟩ := a16 a 955 0 Z (by decide) (by decide)
    have e3 : (setI R 3 (R.1 3 - 1)).1 3 = nI 3 := by
      rw [setI_s, r1, q2]
      decide
    obtain ⟨o, b1, b2, b3, b4, b5, b6⟩ := a57 a (k := 3) (by decide) 319 0 (setI R 3 (R.1 3 - 1)) (by decide) (by decide) e3
    have er : l_X7_act_16 a 955 Z 0 = l_X7_act_57 a 319 (setI R 3 (R.1 3 - 1)) 0 := r5.trans (k45 a R)
    rw [if_pos c4, er, if_neg (show ¬ nI 4 < 4 by decide)]
    refine ⟨⟨fun z => absurd z ha, fun _ => ⟨fun _ => r6 ?_, fun z => absurd c4 z⟩⟩, b1, fun j hj => ?_, fun j hj => ?_, ok, ?_⟩
    · rw [ok45]
      exact o
    · rw [b3 j hj, setI_n _ _ hj, r1]
    · exact (b4 j hj).trans (r2 j hj)
    · refine puth_n (k := 3) (p := dropP p) (f := fun i => rowH (Z.2 2) (i + 1)) (g := Z.2 1) (by decide) (okH_drop (Q := ((nI 4, p), T)) ok) ?_ (fun i hi => ?_) hF b2 (fun i j hi hj => ?_) (fun j hj => ?_)
      · have d : ∀ i, i < 4 → dropP p i = p (if i = 3 then 0 else i + 1) := by
          intro i hi
          rcases (show i = 0 ∨ i = 1 ∨ i = 2 ∨ i = 3 by omega) with rfl | rfl | rfl | rfl <;> rfl
        intro i j hi hj z
        rw [d i hi, d j hj] at z
        have z := inj' _ _ (by split <;> omega) (by split <;> omega) z
        split at z <;> split at z <;> omega
      · have d : dropP p i = p (i + 1) := by
          rcases (show i = 0 ∨ i = 1 ∨ i = 2 by omega) with rfl | rfl | rfl <;> rfl
        rw [d]
        exact rows' (i + 1) (by omega)
      · rw [b6 _ (by omega)]
        refine (r3 _ (Nat.zero_le _) (by omega)).trans ?_
        rw [show 318 + (318 * i + j) = 318 * (i + 1) + j by omega]
        rfl
      · rw [b5 j (Nat.zero_le _) hj]
        exact congrFun (r2 1 (by decide)) j
  · have c4 : ¬ Z.1 3 = 4 := fun z => c ((nI_eq (by omega) (by decide)).mp (q2.symm.trans (z.trans (show (4 : Int32) = nI 4 from rfl))))
    obtain ⟨o, b1, b2, b3, b4, b5, b6⟩ := a57 a (k := k) (by omega) 319 0 Z (by decide) (by decide) q2
    rw [if_neg c4, if_pos (show nI k < 4 from nI_lt (show k < 4 by omega) (by decide))]
    refine ⟨⟨fun z => absurd z ha, fun _ => ⟨fun z => absurd z c4, fun _ => o⟩⟩, b1, b3, b4, ok, ?_⟩
    exact puth_n (f := fun i => rowH (Z.2 2) i) (g := Z.2 1) (by omega) ok' inj' rows' hF b2 (fun i j hi hj => b6 _ (by omega)) (fun j hj => b5 j (Nat.zero_le _) hj)
theorem act_gen {Q : HS} {M N' P O Z F' : CS} {n : Nat} (hH : RELH Q Z n) (hF : OKS F' (Z.2 1) n) (hP : RELP M P Z n) (hS : RELS M Z) (hT : RELT O Z) (hN : OKS N' (Z.2 0) n) (a : Int32) (M0 : CS) : o_X7_act Z a ∧ (f_X7_act Z a).1 = a ∧ o_X6_endAct M0 F' Q a ∧ (f_X6_endAct M0 F' Q a).1 = a ∧ ∀ F E, REL M N' F P (f_X6_endAct M0 F' Q a).2 E O (f_X7_act Z a).2 n := by
  by_cases ha : a < 0
  · have e1 : f_X7_act Z a = (a, Z) := if_pos ha
    have e2 : f_X6_endAct M0 F' Q a = (a, Q) := if_pos ha
    rw [e1, e2]
    exact ⟨⟨fun _ => trivial, fun z => absurd ha z⟩, rfl, ⟨fun _ => trivial, fun z => absurd ha z⟩, rfl, fun F E => ⟨hN, hH, hP, hS, hT⟩⟩
  · obtain ⟨o, a1, a2, a3, a4, a5⟩ := act_n ha hH hF
    have e2 : f_X6_endAct M0 F' Q a = (a, f_X0_record Q F') := if_neg ha
    rw [e2]
    refine ⟨o, a1, ⟨fun z => absurd z ha, fun _ => ⟨a4, trivial⟩⟩, rfl, fun F E => ⟨?_, a5, ?_, ?_, ?_⟩⟩
    · rw [a3 0 (by decide)]
      exact hN
    · unfold RELP at *
      rw [a2 5 (by decide), a3 4 (by decide)]
      exact hP
    · unfold RELS at *
      rw [a2 8 (by decide), a2 9 (by decide)]
      exact hS
    · unfold RELT at *
      rw [a2 7 (by decide), a3 6 (by decide)]
      exact hT
/-- what an act may write before its end -/
def chg (S Z : CS) : Prop := (∀ j, j ≠ 11 → j ≠ 12 → Z.1 j = S.1 j) ∧ ∀ j, j ≠ 0 → j ≠ 10 → Z.2 j = S.2 j
theorem chg.rf (S : CS) : chg S S := ⟨fun _ _ _ => rfl, fun _ _ _ => rfl⟩
theorem chg.trans {S Z R : CS} (h : chg S Z) (h2 : chg Z R) : chg S R := ⟨fun j a b => (h2.1 j a b).trans (h.1 j a b), fun j a b => (h2.2 j a b).trans (h.2 j a b)⟩
theorem chg.sw {S Z : CS} (h : sw S Z) : chg S Z := ⟨h.1, fun j _ b => h.2 j b⟩
theorem chg.F {S Z : CS} (h : chg S Z) (f : Nat → Int32) : chg S (setF Z 0 f) := ⟨h.1, fun j a b => (setF_n Z f a).trans (h.2 j a b)⟩
theorem RELH.cg {Q : HS} {S Z : CS} {n : Nat} (h : RELH Q S n) (e1 : Z.1 3 = S.1 3) (e2 : Z.2 2 = S.2 2) : RELH Q Z n := by
  obtain ⟨k, a, b, c, d⟩ := h
  exact ⟨k, a, b, e1.trans c, by rw [e2]; exact d⟩
theorem act_fin {M N F P : CS} {Q : HS} {E O S : CS} {n : Nat} (h : REL M N F P Q E O S n) {Z N' : CS} (hz : chg (f_X7_putAside S) Z) (hN : OKS N' (Z.2 0) (n + 1)) (a : Int32) (E' : CS) : o_X7_act Z a ∧ (f_X7_act Z a).1 = a ∧ o_X6_endAct M (f_X5_copyFrom F N) Q a ∧ (f_X6_endAct M (f_X5_copyFrom F N) Q a).1 = a ∧ REL M N' (f_X5_copyFrom F N) P (f_X6_endAct M (f_X5_copyFrom F N) Q a).2 E' O (f_X7_act Z a).2 (n + 1) := by
  obtain ⟨h1, h2, h3, h4, h5⟩ := rel_mono h
  obtain ⟨f1, f2, f3⟩ := aside_n S
  have i1 : ∀ j, j ≠ 11 → j ≠ 12 → Z.1 j = S.1 j := fun j a b => (hz.1 j a b).trans (congrFun f1 j)
  have i2 : ∀ j, j ≠ 0 → j ≠ 10 → j ≠ 1 → Z.2 j = S.2 j := fun j a b c => (hz.2 j a b).trans (f2 j c)
  obtain ⟨o, a1, a2, a3, a4⟩ := act_gen (F' := f_X5_copyFrom F N) (M := M) (P := P) (O := O) (Q := Q) (Z := Z) (N' := N') (n := n + 1) (h2.cg (i1 3 (by decide) (by decide)) (i2 2 (by decide) (by decide) (by decide))) ((h1.copy F).congr (fun j hj => by rw [hz.2 1 (by decide) (by decide)]; exact f3 j hj)) (by unfold RELP at *; rw [i1 5 (by decide) (by decide), i2 4 (by decide) (by decide) (by decide)]; exact h3) (by unfold RELS at *; rw [i1 8 (by decide) (by decide), i1 9 (by decide) (by decide)]; exact h4) (by unfold RELT at *; rw [i1 7 (by decide) (by decide), i2 6 (by decide) (by decide) (by decide)]; exact h5) hN a M
  exact ⟨o, a1, a2, a3, a4 _ _⟩
end ACT
