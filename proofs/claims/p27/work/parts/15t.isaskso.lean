/-! PURE PART. isAskSo -/
/-- what a check that is undone leaves: it says true, and the state says the same as before -/
def RES (s : Nat → Int32) (B : Nat) (o : Prop) (r : Bool × CS × CS × HS × CS) : Prop := o ∧ r.1 = true ∧ OKB r.2.1 s B ∧ ∃ k, HQ r.2.2.2.1 k
section ISASK
variable {N : CS} {s : Nat → Int32} {B : Nat}
theorem ask249 (h : OKB N s B) {v : Nat} (hv : rP s v) {Q1 : HS} {k : Nat} (hq : HQ Q1 (k + 1)) (e : SAME N (topQ Q1 k)) (M O N1 F1 : CS) (c : Int32) (E1 : CS) (E : CS) (z4 z9 : Int32 × CS) (h4 : z4.1 = nI (cntB (tB s) 24)) (h9 : z9.1 = s (13 * v + 4)) : RES s B (oj_L_isAskSo_249 M O (nI v) z4 z9 (c, N1, F1, Q1, E1) E 1) (j_L_isAskSo_249 M O (nI v) z4 z9 (c, N1, F1, Q1, E1) E 1) := by
  obtain ⟨o, u, q⟩ := undo_n hq M N1
  have H : OKB (f_X5_copyFrom N1 (topQ Q1 k)) s B := h.same (e.trans (copy_same _ _))
  have K := H.toS
  have n10 : ¬ (1 : Int32) = 0 := by decide
  have k0 : ¬ nI k < 0 := nI_pos (by have := hq.1; omega)
  have v6 := ver6 K hv
  unfold oj_L_isAskSo_249 j_L_isAskSo_249
  simp only [bind1, u, o, n10, k0, v6, h4, h9, cnt1 K, ↓reduceIte, if_true, if_false, true_and, not_true_eq_false, not_false_eq_true, Bool.false_eq_true, true_implies, false_implies, and_true, implies_true]
  exact ⟨trivial, rfl, H, k, q⟩
theorem trees_up {s' : Nat → Int32} (e0 : ∀ u, u < 24 → s' (13 * u) = s (13 * u)) {v : Nat} (hv : rP s v) (nr : ¬ rR s v) (r : s' (13 * v + 3) = 1) (ro : ∀ u, u < 24 → u ≠ v → s' (13 * u + 3) = s (13 * u + 3)) : cntB (tB s') 24 = cntB (tB s) 24 + 1 := by
  have pe := pB_eq e0
  have tv : tB s' v = true := tB_iff.mpr ⟨pB_iff.mp (by rw [pe]; exact pB_iff.mpr hv), r⟩
  rw [cntB_del tv hv.1]
  congr 1
  refine cntB_congr (fun i hi => ?_)
  by_cases c : i = v
  · subst c
    have : tB s i = false := by
      cases q : tB s i with
      | false => rfl
      | true => exact absurd (tB_iff.mp q) nr
    simp [this]
  · unfold tB
    rw [pe i, ro i hi c]
    simp [c]
theorem trees_eq {s' : Nat → Int32} (e0 : ∀ u, u < 24 → s' (13 * u) = s (13 * u)) (ro : R3 s s') : cntB (tB s') 24 = cntB (tB s) 24 := by
  have pe := pB_eq e0
  refine cntB_congr (fun i hi => ?_)
  unfold tB
  rw [pe i, ro i hi]
theorem trees_mv {s' : Nat → Int32} (e0 : ∀ u, u < 24 → s' (13 * u) = s (13 * u)) {v w : Nat} (hv : rP s v) (hw : rR s w) (nr : ¬ rR s v) (ro : ∀ u, u < 24 → (s' (13 * u + 3) = 1 ↔ (u = v ∨ (u ≠ w ∧ s (13 * u + 3) = 1)))) : cntB (tB s') 24 = cntB (tB s) 24 := by
  have pe := pB_eq e0
  have tv : tB s' v = true := tB_iff.mpr ⟨pB_iff.mp (by rw [pe]; exact pB_iff.mpr hv), (ro v hv.1).mpr (Or.inl rfl)⟩
  have tw : tB s w = true := tB_iff.mpr hw
  rw [cntB_del tv hv.1, cntB_del tw hw.1.1]
  congr 1
  refine cntB_congr (fun i hi => ?_)
  have pi := pe i
  by_cases p : pB s i = true
  · have x1 : tB s' i = true ↔ (i = v ∨ (i ≠ w ∧ s (13 * i + 3) = 1)) := by
      rw [← ro i hi]
      unfold tB
      rw [pi, p]
      simp
    have x2 : tB s i = true ↔ s (13 * i + 3) = 1 := by
      unfold tB
      rw [p]
      simp
    have nv : i = v → ¬ s (13 * i + 3) = 1 := fun z r => nr ⟨hv, z ▸ r⟩
    rw [Bool.eq_iff_iff, Bool.and_eq_true, Bool.and_eq_true, x1, x2, decide_eq_true_iff, decide_eq_true_iff]
    constructor
    · rintro ⟨z | ⟨z1, z2⟩, z3⟩
      · exact absurd z z3
      · exact ⟨z2, z1⟩
    · rintro ⟨z1, z2⟩
      exact ⟨Or.inr ⟨z2, z1⟩, fun z => nv z z1⟩
  · have y1 : tB s' i = false := by
      unfold tB
      rw [pi]
      simp [p]
    have y2 : tB s i = false := by
      unfold tB
      simp [p]
    rw [y1, y2]
    rfl
set_option maxHeartbeats 16000000 in
theorem ask123 (h : OKB N s B) {v w : Nat} (hv : rP s v) (a : RO s v w) {Q : HS} {k : Nat} (hq : HQ Q k) (M F O E : CS) (z1 z3 z4 z5 z6 z9 : Int32 × CS) (h1 : z1.1 = nI (1 + yC s w v)) (h3 : z3.1 = nI w) (h4 : z4.1 = nI (cntB (tB s) 24)) (h5 : z5.1 = s 316) (h6 : z6.1 = s 317) (h9 : z9.1 = s (13 * v + 4)) (yc yr : Int32) (hc : (s 313 < nI (yD s w v) → yc = 1) ∧ (¬ s 313 < nI (yD s w v) → yc = 0)) (hr : ((s 313 < nI (yD s w v) ∨ w = v ∨ PRE s v w) → yr = 1) ∧ (¬ (s 313 < nI (yD s w v) ∨ w = v ∨ PRE s v w) → yr = 0)) : RES s B (oj_L_isAskSo_123 M N F Q O (nI v) z1 z3 z4 z5 z6 yc z9 E yr) (j_L_isAskSo_123 M N F Q O (nI v) z1 z3 z4 z5 z6 yc z9 E yr) := by
  have v24 := hv.1
  have w24 := a.1.1.1
  have cl := wC_le h.1 a.1.1 hv a.2
  obtain ⟨N1, E1, s', e, H, e0, e4, e4v, e14, e15, alt⟩ := t_ask h hv a M E
  obtain ⟨oa, ea⟩ := ask_e (F := F) hq.2.2.1 e
  obtain ⟨-, k', hq', sm, -⟩ := rec_n hq (f_X5_copyFrom F N)
  have aq : afterQ Q F N (nI (1 + yC s w v)) = f_X0_record Q (f_X5_copyFrom F N) := if_neg (nI_pos (by omega))
  rw [aq] at ea
  have r249 := ask249 h hv hq' ((copy_same F N).trans sm) M O N1 (f_X5_copyFrom F N) (nI (1 + yC s w v)) E1
  have K := H.toS
  have pv : rP s' v := ⟨v24, by rw [e0 v v24]; exact hv.2⟩
  have v6 := ver6 K pv M
  have wv : nI v = nI w ↔ w = v := ⟨fun z => ((nI_eq (by omega) (by omega)).mp z).symm, fun z => by rw [z]⟩
  have wv' : nI w = nI v ↔ w = v := nI_eq (by omega) (by omega)
  have n10 : ¬ (1 : Int32) = 0 := by decide
  have n01 : ¬ (0 : Int32) = 1 := by decide
  have sv : ∀ x : Int32, x + 0 = x := Int32.add_zero
  unfold oj_L_isAskSo_123 j_L_isAskSo_123
  rcases alt with ⟨c1, c2, c3, c4, c5, c6⟩ | ⟨c1, c5, ⟨d1, d2, d3⟩ | ⟨d1, d2, d3, d4⟩ | ⟨d1, d2, d3, d4, d5⟩⟩
  · obtain rfl := hc.1 c1
    obtain rfl := hr.1 (Or.inl c1)
    have t := trees_up e0 hv c2 c3 c4
    have v3 := ver3 K pv (show RO s' v v from ⟨⟨pv, c3⟩, rfl⟩) M
    have t2 : nI (cntB (tB s) 24 + 1) = nI (cntB (tB s) 24) + 1 := (nI_1 _).symm
    simp only [bind1, ea, oa, h1, h3, h4, h5, h6, h9, v6, e4v, cnt1 K, cnt8 K, cnt9 K, t, t2, c5, c6, v3, n10, n01, sv, j_L_isAskSo_165, oj_L_isAskSo_165, j_L_isAskSo_187, oj_L_isAskSo_187, j_L_isAskSo_220, oj_L_isAskSo_220, j_L_isAskSo_239, oj_L_isAskSo_239, ↓reduceIte, if_true, if_false, true_and, not_true_eq_false, not_false_eq_true, Bool.false_eq_true, true_implies, false_implies, and_true]
    exact r249 _ z4 z9 h4 h9
  · obtain rfl := hc.2 c1
    obtain rfl := hr.1 (Or.inr (Or.inl d1))
    subst d1
    have t := trees_eq e0 d3
    have rv : rR s' w := ⟨pv, by rw [d3 w v24]; exact a.1.2⟩
    have v3 := ver3 K pv (show RO s' w w from ⟨rv, rfl⟩) M
    simp only [bind1, ea, oa, h1, h3, h4, h5, h6, h9, v6, e4v, cnt1 K, cnt8 K, cnt9 K, t, c5, d2, v3, n10, n01, sv, j_L_isAskSo_165, oj_L_isAskSo_165, j_L_isAskSo_187, oj_L_isAskSo_187, j_L_isAskSo_220, oj_L_isAskSo_220, j_L_isAskSo_239, oj_L_isAskSo_239, ↓reduceIte, if_true, if_false, true_and, not_true_eq_false, not_false_eq_true, Bool.false_eq_true, true_implies, false_implies, and_true]
    exact r249 _ z4 z9 h4 h9
  · obtain rfl := hc.2 c1
    obtain rfl := hr.1 (Or.inr (Or.inr d2))
    have nr : ¬ rR s v := fun z => d1 (h.2.1.2.2.1 w v a.1 z a.2)
    have t := trees_mv e0 hv a.1 nr d4
    have rv : rR s' v := ⟨pv, (d4 v v24).mpr (Or.inl rfl)⟩
    have v3 := ver3 K pv (show RO s' v v from ⟨rv, rfl⟩) M
    have wv : ¬ nI v = nI w := fun z => d1 (wv.mp z)
    simp only [bind1, ea, oa, h1, h3, h4, h5, h6, h9, v6, e4v, cnt1 K, cnt8 K, cnt9 K, t, c5, d3, v3, wv, n10, n01, sv, j_L_isAskSo_165, oj_L_isAskSo_165, j_L_isAskSo_187, oj_L_isAskSo_187, j_L_isAskSo_220, oj_L_isAskSo_220, j_L_isAskSo_239, oj_L_isAskSo_239, ↓reduceIte, if_true, if_false, true_and, not_true_eq_false, not_false_eq_true, Bool.false_eq_true, true_implies, false_implies, and_true]
    exact r249 _ z4 z9 h4 h9
  · obtain rfl := hc.2 c1
    obtain rfl := hr.2 (fun z => z.elim c1 (fun z => z.elim d1 d2))
    have t := trees_eq e0 d4
    have v3 := ver3 K pv d5 M
    have wv : ¬ nI v = nI w := fun z => d1 (wv.mp z)
    have wv' : ¬ nI w = nI v := fun z => d1 (wv'.mp z)
    simp only [bind1, ea, oa, h1, h3, h4, h5, h6, h9, v6, e4v, cnt1 K, cnt8 K, cnt9 K, t, c5, d3, v3, wv, wv', n10, n01, sv, j_L_isAskSo_165, oj_L_isAskSo_165, j_L_isAskSo_187, oj_L_isAskSo_187, j_L_isAskSo_220, oj_L_isAskSo_220, j_L_isAskSo_239, oj_L_isAskSo_239, ↓reduceIte, if_true, if_false, true_and, not_true_eq_false, not_false_eq_true, Bool.false_eq_true, true_implies, false_implies, and_true]
    exact r249 _ z4 z9 h4 h9
set_option maxHeartbeats 16000000 in
theorem isAskSo_n (h : OKB N s B) {v : Nat} (hv : rP s v) {Q : HS} {k : Nat} (hq : HQ Q k) (M F E O : CS) : RES s B (o_L_isAskSo M N F Q E O (nI v)) (f_L_isAskSo M N F Q E O (nI v)) := by
  have K := h.toS
  obtain ⟨w, a⟩ := RO.ex K hv
  have v24 := hv.1
  have w24 := a.1.1.1
  have v3 := ver3 K hv a M
  have v4 := ver4 K hv a M
  have v9 := ver9 K hv a M
  have v6 := ver6 K hv M
  have v6w := ver6 K a.1.1 M
  have n10 : ¬ (1 : Int32) = 0 := by decide
  have n12 : ¬ (1 : Int32) = 2 := by decide
  have n21 : ¬ (2 : Int32) = 1 := by decide
  have wv : nI v = nI w ↔ w = v := ⟨fun z => ((nI_eq (by omega) (by omega)).mp z).symm, fun z => by rw [z]⟩
  unfold o_L_isAskSo f_L_isAskSo
  by_cases c : s 313 < nI (yD s w v)
  · simp only [bind1, v3, v4, v9, v6, cnt1 K, cnt8 K, cnt9 K, cnt10 K, cnt11 K, c, n10, j_L_isAskSo_69, oj_L_isAskSo_69, ↓reduceIte, if_true, if_false, true_and, not_true_eq_false, not_false_eq_true, Bool.false_eq_true, true_implies, false_implies, and_true]
    exact ask123 h hv a hq M F O _ _ _ _ _ _ _ (v9 _) (v3 _) rfl rfl rfl rfl 1 1 ⟨fun _ => rfl, fun z => absurd c z⟩ ⟨fun _ => rfl, fun z => absurd (Or.inl c) z⟩
  · by_cases r1 : s 312 = 1
    · simp only [bind1, v3, v4, v9, v6, cnt1 K, cnt8 K, cnt9 K, cnt10 K, cnt11 K, c, r1, j_L_isAskSo_69, oj_L_isAskSo_69, ↓reduceIte, if_true, if_false, true_and, not_true_eq_false, not_false_eq_true, Bool.false_eq_true, true_implies, false_implies, and_true]
      exact ask123 h hv a hq M F O _ _ _ _ _ _ _ (v9 _) (v3 _) rfl rfl rfl rfl 0 1 ⟨fun z => absurd z c, fun _ => rfl⟩ ⟨fun _ => rfl, fun z => absurd (Or.inr (Or.inr (Or.inl r1))) z⟩
    · by_cases d : w = v
      · subst d
        simp only [bind1, v3, v4, v9, v6, cnt1 K, cnt8 K, cnt9 K, cnt10 K, cnt11 K, c, r1, j_L_isAskSo_69, oj_L_isAskSo_69, ↓reduceIte, if_true, if_false, true_and, not_true_eq_false, not_false_eq_true, Bool.false_eq_true, true_implies, false_implies, and_true]
        exact ask123 h hv a hq M F O _ _ _ _ _ _ _ (v9 _) (v3 _) rfl rfl rfl rfl 0 1 ⟨fun z => absurd z c, fun _ => rfl⟩ ⟨fun _ => rfl, fun z => absurd (Or.inr (Or.inl rfl)) z⟩
      · have wv : ¬ nI v = nI w := fun z => d (wv.mp z)
        by_cases r2 : s 312 = 2
        · by_cases y : s (13 * w + 4) < s (13 * v + 4) + 1
          · simp only [bind1, v3, v4, v9, v6, v6w, cnt1 K, cnt8 K, cnt9 K, cnt10 K, cnt11 K, c, r2, n21, wv, y, j_L_isAskSo_69, oj_L_isAskSo_69, ↓reduceIte, if_true, if_false, true_and, not_true_eq_false, not_false_eq_true, Bool.false_eq_true, true_implies, false_implies, and_true]
            exact ask123 h hv a hq M F O _ _ _ _ _ _ _ (v9 _) (v3 _) rfl rfl rfl rfl 0 1 ⟨fun z => absurd z c, fun _ => rfl⟩ ⟨fun _ => rfl, fun z => absurd (Or.inr (Or.inr (Or.inr ⟨r2, y⟩))) z⟩
          · simp only [bind1, v3, v4, v9, v6, v6w, cnt1 K, cnt8 K, cnt9 K, cnt10 K, cnt11 K, c, r2, n21, wv, y, j_L_isAskSo_69, oj_L_isAskSo_69, ↓reduceIte, if_true, if_false, true_and, not_true_eq_false, not_false_eq_true, Bool.false_eq_true, true_implies, false_implies, and_true]
            exact ask123 h hv a hq M F O _ _ _ _ _ _ _ (v9 _) (v3 _) rfl rfl rfl rfl 0 0 ⟨fun z => absurd z c, fun _ => rfl⟩ ⟨fun z => absurd z (fun z => z.elim c (fun z => z.elim d (fun z => z.elim r1 (fun z => y z.2)))), fun _ => rfl⟩
        · simp only [bind1, v3, v4, v9, v6, cnt1 K, cnt8 K, cnt9 K, cnt10 K, cnt11 K, c, r1, r2, wv, j_L_isAskSo_69, oj_L_isAskSo_69, ↓reduceIte, if_true, if_false, true_and, not_true_eq_false, not_false_eq_true, Bool.false_eq_true, true_implies, false_implies, and_true]
          exact ask123 h hv a hq M F O _ _ _ _ _ _ _ (v9 _) (v3 _) rfl rfl rfl rfl 0 0 ⟨fun z => absurd z c, fun _ => rfl⟩ ⟨fun z => absurd z (fun z => z.elim c (fun z => z.elim d (fun z => z.elim r1 (fun z => r2 z.1)))), fun _ => rfl⟩
end ISASK
