/-! PURE PART. acts in general; set and root -/
section RTS
variable {M N F P : CS} {Q : HS} {E O S : CS} {n : Nat}
theorem act_err (h : REL M N F P Q E O S n) {Z N' : CS} (hz : chg (f_X7_putAside S) Z) (hN : OKS N' (Z.2 0) (n + 1)) {a : Int32} (ha : a < 0) (F' E' : CS) : o_X7_act Z a ∧ (f_X7_act Z a).1 = a ∧ REL M N' F' P Q E' O (f_X7_act Z a).2 (n + 1) := by
  obtain ⟨o, a1, -, -, a4⟩ := act_fin h hz hN a E'
  rw [show f_X6_endAct M (f_X5_copyFrom F N) Q a = (a, Q) from if_pos ha] at a4
  exact ⟨o, a1, a4⟩
theorem act_e (A : CS → Int32 × CS) (S : CS) : (bind1 (f_X7_putAside S) (fun z1 => (bind1 (A z1) (fun z3 => (bind1 (f_X7_act z3.2 z3.1) (fun z5 => (z5.1, z5.2))))))) = f_X7_act (A (f_X7_putAside S)).2 (A (f_X7_putAside S)).1 := rfl
theorem act_o {A : CS → Int32 × CS} {oA : CS → Prop} {S : CS} (h : oA (f_X7_putAside S)) (h2 : o_X7_act (A (f_X7_putAside S)).2 (A (f_X7_putAside S)).1) : (bind1 (f_X7_putAside S) (fun z1 => ((oA z1) ∧ (bind1 (A z1) (fun z3 => ((o_X7_act z3.2 z3.1) ∧ (bind1 (f_X7_act z3.2 z3.1) (fun z5 => True)))))))) := ⟨h, h2, trivial⟩
theorem cls3_e (M N F : CS) (Q : HS) (A : Int32 × CS × CS) : (bind1 (f_X6_beginAct M N F) (fun z1 => (bind1 A (fun z2 => (bind1 (f_X6_endAct M z1 Q z2.1) (fun z4 => (z4.1, z2.2.1, z1, z4.2, z2.2.2))))))) = ((f_X6_endAct M (f_X5_copyFrom F N) Q A.1).1, A.2.1, f_X5_copyFrom F N, (f_X6_endAct M (f_X5_copyFrom F N) Q A.1).2, A.2.2) := rfl
theorem cls3_o {M N F : CS} {Q : HS} {A : Int32 × CS × CS} (h : o_X6_endAct M (f_X5_copyFrom F N) Q A.1) : (bind1 (f_X6_beginAct M N F) (fun z1 => (bind1 A (fun z2 => ((o_X6_endAct M z1 Q z2.1) ∧ (bind1 (f_X6_endAct M z1 Q z2.1) (fun z4 => True))))))) := ⟨h, trivial⟩
theorem cls2_e (M N F : CS) (Q : HS) (A : Int32 × CS) : (bind1 (f_X6_beginAct M N F) (fun z1 => (bind1 A (fun z2 => (bind1 (f_X6_endAct M z1 Q z2.1) (fun z4 => (z4.1, z2.2, z1, z4.2))))))) = ((f_X6_endAct M (f_X5_copyFrom F N) Q A.1).1, A.2, f_X5_copyFrom F N, (f_X6_endAct M (f_X5_copyFrom F N) Q A.1).2) := rfl
theorem cls2_o {M N F : CS} {Q : HS} {A : Int32 × CS} (h : o_X6_endAct M (f_X5_copyFrom F N) Q A.1) : (bind1 (f_X6_beginAct M N F) (fun z1 => (bind1 A (fun z2 => ((o_X6_endAct M z1 Q z2.1) ∧ (bind1 (f_X6_endAct M z1 Q z2.1) (fun z4 => True))))))) := ⟨h, trivial⟩
theorem OKS.toB {N : CS} {s : Nat → Int32} {n : Nat} (h : OKS N s n) : OKB N s (50 * n) := h
theorem OKB.fin {N : CS} {s : Nat → Int32} {n B : Nat} (h : OKB N s B) (hB : B ≤ 50 * (n + 1)) : OKS N s (n + 1) := h.mono hB
theorem aside0 (S : CS) : (f_X7_putAside S).2 0 = S.2 0 := (aside_n S).2.1 0 (by decide)
theorem in_rng (a : Int32) {lo hi : Nat} (h1 : lo ≤ hi + 1) (h : hi < 2 ^ 30) : (f_X7_in a (nI lo) (nI hi) = true ∧ ∃ j, lo ≤ j ∧ j ≤ hi ∧ a = nI j) ∨ (f_X7_in a (nI lo) (nI hi) = false ∧ (a < nI lo ∨ nI hi < a)) := by
  rw [in_spec]
  by_cases c1 : a < nI lo
  · exact Or.inr ⟨by simp [c1], Or.inl c1⟩
  · by_cases c2 : nI hi < a
    · exact Or.inr ⟨by simp [c2], Or.inr c2⟩
    · refine Or.inl ⟨by simp [c1, c2], ?_⟩
      rw [Int32.lt_iff_toInt_lt, nI_toInt (by omega)] at c1
      rw [Int32.lt_iff_toInt_lt, nI_toInt (by omega)] at c2
      have c0 : ¬ a < 0 := by
        rw [Int32.lt_iff_toInt_lt]
        have : (0 : Int32).toInt = 0 := by decide
        omega
      obtain ⟨j, hj, rfl⟩ := nI_of c0
      rw [nI_toInt hj] at c1 c2
      exact ⟨j, by omega, by omega, rfl⟩
theorem in01 (a : Int32) : a = 0 ∨ a = 1 ∨ (¬ a = 0 ∧ ¬ a = 1 ∧ f_X7_in a 0 1 = false) := by
  by_cases c0 : a = 0
  · exact Or.inl c0
  · by_cases c1 : a = 1
    · exact Or.inr (Or.inl c1)
    · refine Or.inr (Or.inr ⟨c0, c1, ?_⟩)
      rcases (in_rng a (lo := 0) (hi := 1) (by decide) (by decide)) with ⟨-, j, h1, h2, h3⟩ | ⟨q, -⟩
      · rcases (show j = 0 ∨ j = 1 by omega) with rfl | rfl
        · exact absurd h3 c0
        · exact absurd h3 c1
      · exact q
/-! settings -/
theorem FL.glob {s s' : Nat → Int32} (W : SH s) (L : FL s) (e : ∀ j, j < 312 → s' j = s j) (e312 : G3 s') : FL s' := by
  obtain ⟨r, hr, -⟩ := L.2.1 0 W.p0
  refine FL.move W L (fun j a _ _ _ => e j a) (fun v hv => e _ (by have := hv.1; omega)) e312 hr hr.1 rfl (fun y hy => ?_)
  rw [e _ (by have := hy.1; omega)]
  by_cases c : y = r
  · subst c
    exact ⟨fun _ => Or.inl rfl, fun _ => hr.2⟩
  · exact ⟨fun z => Or.inr ⟨c, z⟩, fun z => z.elim (fun k => absurd k c) (fun k => k.2)⟩
theorem OKB.glob {N N' : CS} {s s' : Nat → Int32} {B : Nat} (h : OKB N s B) (e : ∀ j, j < 312 → s' j = s j) (e312 : G3 s') (n0 : ∀ j, j < 3 → N'.1 j = N.1 j) (m : N'.2 = N.2) (g : ∀ j, 7 ≤ j → j ≤ 12 → N'.1 j = s' (305 + j)) : OKB N' s' B := by
  obtain ⟨W, L, R, b⟩ := h
  refine OKB.flags ⟨W, L, R, b⟩ (fun j a _ _ _ => e j a) (FL.glob W L e e312) (n0 0 (by decide)) (fun i hi => ?_) (fun i hi => ?_) (by rw [m]) (by rw [m]) (by rw [m]) (fun v hv => ?_) g
  · rw [n0 1 (by decide), k_i R hi]
    constructor
    · rintro ⟨p, q⟩
      have := p.1
      exact ⟨p, by unfold rH at *; rw [e _ (by omega)]; exact q⟩
    · rintro ⟨p, q⟩
      have := p.1
      exact ⟨p, by unfold rH at *; rw [e _ (by omega)] at q; exact q⟩
  · rw [n0 2 (by decide), t_i R hi]
    constructor
    · rintro ⟨p, q⟩
      have := p.1
      exact ⟨p, by rw [e _ (by omega)]; exact q⟩
    · rintro ⟨p, q⟩
      have := p.1
      exact ⟨p, by rw [e _ (by omega)] at q; exact q⟩
  · rw [m, e _ (by have := hv.1; omega)]
    exact ⟨(R.2.2.2.2.2.1 v hv).1, b v hv⟩
theorem sets_0y {S : CS} {a2 : Int32} (q : f_X7_in a2 0 2 = true) : f_X7_sets S 0 a2 = (if S.2 0 312 = a2 then -5 else S.2 0 312, setF S 0 (upd (S.2 0) 312 a2)) ∧ o_X7_sets S 0 a2 := by
  have i0 : ((312 : Int32) + 0).toNatClampNeg = 312 := by decide
  have v0 : vp_in ((312 : Int32) + 0) 318 := vp_in_nI (show 312 < 318 by decide) (by decide)
  unfold f_X7_sets o_X7_sets
  rw [if_pos (show f_X7_in 0 0 1 = true by decide), if_pos (show (0 : Int32) = 0 from rfl), if_pos q, i0]
  simp only [bind1]
  refine ⟨?_, fun _ => ⟨fun _ => ⟨fun _ => ⟨v0, v0, fun _ => trivial, fun _ => trivial⟩, fun k => absurd q k⟩, fun k => absurd trivial k⟩, fun k => absurd (show f_X7_in 0 0 1 = true by decide) k⟩
  split <;> rfl
theorem sets_1y {S : CS} {a2 : Int32} (q : f_X7_in a2 1 30 = true) : f_X7_sets S 1 a2 = (if S.2 0 313 = a2 then -5 else S.2 0 313, setF S 0 (upd (S.2 0) 313 a2)) ∧ o_X7_sets S 1 a2 := by
  have i0 : ((312 : Int32) + 1).toNatClampNeg = 313 := by decide
  have v0 : vp_in ((312 : Int32) + 1) 318 := vp_in_nI (show 313 < 318 by decide) (by decide)
  have n10 : ¬ (1 : Int32) = 0 := by decide
  unfold f_X7_sets o_X7_sets
  rw [if_pos (show f_X7_in 1 0 1 = true by decide), if_neg n10, if_pos q, i0]
  simp only [bind1]
  refine ⟨?_, fun _ => ⟨fun k => absurd k n10, fun _ => ⟨fun _ => ⟨v0, v0, fun _ => trivial, fun _ => trivial⟩, fun k => absurd q k⟩⟩, fun k => absurd (show f_X7_in 1 0 1 = true by decide) k⟩
  split <;> rfl
theorem sets_0n {S : CS} {a2 : Int32} (q : f_X7_in a2 0 2 = false) : f_X7_sets S 0 a2 = (-2, S) ∧ o_X7_sets S 0 a2 := by
  unfold f_X7_sets o_X7_sets
  rw [if_pos (show f_X7_in 0 0 1 = true by decide), if_pos (show (0 : Int32) = 0 from rfl), q, if_neg (by decide)]
  exact ⟨rfl, fun _ => ⟨fun _ => ⟨fun k => (by cases k), fun _ => trivial⟩, fun k => absurd rfl k⟩, fun k => absurd (show f_X7_in 0 0 1 = true by decide) k⟩
theorem sets_1n {S : CS} {a2 : Int32} (q : f_X7_in a2 1 30 = false) : f_X7_sets S 1 a2 = (-2, S) ∧ o_X7_sets S 1 a2 := by
  have n10 : ¬ (1 : Int32) = 0 := by decide
  unfold f_X7_sets o_X7_sets
  rw [if_pos (show f_X7_in 1 0 1 = true by decide), if_neg n10, q, if_neg (by decide)]
  exact ⟨rfl, fun _ => ⟨fun k => absurd k n10, fun _ => ⟨fun k => (by cases k), fun _ => trivial⟩⟩, fun k => absurd (show f_X7_in 1 0 1 = true by decide) k⟩
theorem sets_n {S : CS} {a1 a2 : Int32} (q : f_X7_in a1 0 1 = false) : f_X7_sets S a1 a2 = (-1, S) ∧ o_X7_sets S a1 a2 := by
  unfold f_X7_sets o_X7_sets
  rw [q, if_neg (by decide)]
  exact ⟨rfl, fun k => (by cases k), fun _ => trivial⟩
end RTS
theorem sim_set (M : CS) (N : CS) (F : CS) (P : CS) (Q : HS) (E : CS) (O : CS) (S : CS) (n : Nat) (a1 : Int32) (a2 : Int32) (h : REL M N F P Q E O S n) (hn : n < 512) : (o_X6_set M N F Q a1 a2) ∧ (o_X7_set S a1 a2) ∧ (f_X6_set M N F Q a1 a2).1 = (f_X7_set S a1 a2).1 ∧ REL M ((f_X6_set M N F Q a1 a2).2.1) ((f_X6_set M N F Q a1 a2).2.2.1) P ((f_X6_set M N F Q a1 a2).2.2.2) E O ((f_X7_set S a1 a2).2) (n + 1) := by
  have K := h.1
  have e7 : N.1 7 = S.2 0 312 := K.2.2.1.2.2.2.2.2.2 7 (by decide) (by decide)
  have e8 : N.1 8 = S.2 0 313 := K.2.2.1.2.2.2.2.2.2 8 (by decide) (by decide)
  have z0 := aside0 S
  have KA : OKS N ((f_X7_putAside S).2 0) (n + 1) := by rw [z0]; exact K.mono (Nat.le_succ n)
  have eS : f_X7_set S a1 a2 = f_X7_act (f_X7_sets (f_X7_putAside S) a1 a2).2 (f_X7_sets (f_X7_putAside S) a1 a2).1 := act_e (fun z => f_X7_sets z a1 a2) S
  have oS : o_X7_sets (f_X7_putAside S) a1 a2 → o_X7_act (f_X7_sets (f_X7_putAside S) a1 a2).2 (f_X7_sets (f_X7_putAside S) a1 a2).1 → o_X7_set S a1 a2 := fun x y => act_o (A := fun z => f_X7_sets z a1 a2) (oA := fun z => o_X7_sets z a1 a2) x y
  have bad : ∀ c : Int32, c < 0 → f_X7_sets (f_X7_putAside S) a1 a2 = (c, f_X7_putAside S) → o_X7_sets (f_X7_putAside S) a1 a2 → f_X6_set M N F Q a1 a2 = (c, N, F, Q) → o_X6_set M N F Q a1 a2 → (o_X6_set M N F Q a1 a2) ∧ (o_X7_set S a1 a2) ∧ (f_X6_set M N F Q a1 a2).1 = (f_X7_set S a1 a2).1 ∧ REL M ((f_X6_set M N F Q a1 a2).2.1) ((f_X6_set M N F Q a1 a2).2.2.1) P ((f_X6_set M N F Q a1 a2).2.2.2) E O ((f_X7_set S a1 a2).2) (n + 1) := by
    intro c hc e1 o1 e2 o2
    rw [e1] at eS oS
    have cr := chg.rf (f_X7_putAside S)
    obtain ⟨o, x1, x2⟩ := act_err h cr KA hc F E
    dsimp only at eS oS
    rw [eS, e2]
    exact ⟨o2, oS o1 o, x1.symm, x2⟩
  have good : ∀ (k j : Nat) (N' : CS), k = 312 ∨ k = 313 → G3 (upd (S.2 0) k (nI j)) → a2 = nI j → f_X7_sets (f_X7_putAside S) a1 a2 = (if (f_X7_putAside S).2 0 k = a2 then -5 else (f_X7_putAside S).2 0 k, setF (f_X7_putAside S) 0 (upd ((f_X7_putAside S).2 0) k a2)) → o_X7_sets (f_X7_putAside S) a1 a2 → N' = setI N (k - 305) a2 → (S.2 0 k = a2 → f_X6_set M N F Q a1 a2 = (-5, N, F, Q) ∧ o_X6_set M N F Q a1 a2) → (¬ S.2 0 k = a2 → f_X6_set M N F Q a1 a2 = ((f_X6_endAct M (f_X5_copyFrom F N) Q (S.2 0 k)).1, N', f_X5_copyFrom F N, (f_X6_endAct M (f_X5_copyFrom F N) Q (S.2 0 k)).2) ∧ (o_X6_endAct M (f_X5_copyFrom F N) Q (S.2 0 k) → o_X6_set M N F Q a1 a2)) → (o_X6_set M N F Q a1 a2) ∧ (o_X7_set S a1 a2) ∧ (f_X6_set M N F Q a1 a2).1 = (f_X7_set S a1 a2).1 ∧ REL M ((f_X6_set M N F Q a1 a2).2.1) ((f_X6_set M N F Q a1 a2).2.2.1) P ((f_X6_set M N F Q a1 a2).2.2.2) E O ((f_X7_set S a1 a2).2) (n + 1) := by
    intro k j N' hk hG ej e1 o1 eN y1 y2
    have cz : chg (f_X7_putAside S) (setF (f_X7_putAside S) 0 (upd ((f_X7_putAside S).2 0) k a2)) := (chg.rf _).F _
    have zz : (setF (f_X7_putAside S) 0 (upd ((f_X7_putAside S).2 0) k a2)).2 0 = upd (S.2 0) k a2 := by rw [setF_s, z0]
    have ez : (f_X7_putAside S).2 0 k = S.2 0 k := congrFun z0 k
    by_cases c : S.2 0 k = a2
    · obtain ⟨e2, o2⟩ := y1 c
      rw [if_pos (ez.trans c)] at e1
      rw [e1] at eS oS
      have KK : OKS N ((setF (f_X7_putAside S) 0 (upd ((f_X7_putAside S).2 0) k a2)).2 0) (n + 1) := by
        rw [zz]
        refine (K.mono (Nat.le_succ n)).congr (fun i hi => ?_)
        by_cases d : i = k
        · rw [d, pk_us, c]
        · exact pk_un d
      generalize setF (f_X7_putAside S) 0 (upd ((f_X7_putAside S).2 0) k a2) = Z at *
      obtain ⟨o, x1, x2⟩ := act_err h cz KK (show (-5 : Int32) < 0 by decide) F E
      rw [eS, e2]
      exact ⟨o2, oS o1 o, x1.symm, x2⟩
    · obtain ⟨e2, o2⟩ := y2 c
      rw [if_neg (fun z => c (ez.symm.trans z)), ez] at e1
      rw [e1] at eS oS
      have KK : OKS N' ((setF (f_X7_putAside S) 0 (upd ((f_X7_putAside S).2 0) k a2)).2 0) (n + 1) := by
        rw [zz, ej]
        have b : OKB N (S.2 0) (50 * (n + 1)) := K.mono (Nat.le_succ n)
        refine b.glob (fun i hi => pk_un (by omega)) hG (fun i hi => by rw [eN]; exact setI_n _ _ (by omega)) (by rw [eN]; rfl) (fun i x y => ?_)
        rw [eN, ej]
        by_cases d : 305 + i = k
        · rw [d, pk_us, show k - 305 = i by omega, setI_s]
        · rw [pk_un d, setI_n _ _ (by omega)]
          exact K.2.2.1.2.2.2.2.2.2 i x y
      generalize setF (f_X7_putAside S) 0 (upd ((f_X7_putAside S).2 0) k a2) = Z at *
      obtain ⟨o, x1, x2, x3, x4⟩ := act_fin h cz KK (S.2 0 k) E
      rw [eS, e2]
      exact ⟨o2 x2, oS o1 o, x3.trans x1.symm, x4⟩
  rcases in01 a1 with rfl | rfl | ⟨c0, c1, q⟩
  · rcases (show (f_X7_in a2 0 2 = true ∧ ∃ j, 0 ≤ j ∧ j ≤ 2 ∧ a2 = nI j) ∨ (f_X7_in a2 0 2 = false ∧ (a2 < 0 ∨ 2 < a2)) from in_rng a2 (lo := 0) (hi := 2) (by decide) (by decide)) with ⟨q, j, -, hj, rfl⟩ | ⟨q, d⟩
    · have l0 : ¬ nI j < 0 := nI_pos (by omega)
      have l3 : nI j < 3 := nI_lt (show j < 3 by omega) (by decide)
      refine good 312 j (setI N 7 (nI j)) (Or.inl rfl) ⟨?_, ?_⟩ rfl (sets_0y q).1 (sets_0y q).2 rfl (fun c => ?_) (fun c => ?_)
      · rw [pk_us]
        rcases (show j = 0 ∨ j = 1 ∨ j = 2 by omega) with rfl | rfl | rfl
        · exact Or.inl rfl
        · exact Or.inr (Or.inl rfl)
        · exact Or.inr (Or.inr rfl)
      · rw [pk_un (by decide)]
        exact K.2.1.2.2.2.1.2
      · have c : N.1 7 = nI j := e7.trans c
        unfold f_X6_set o_X6_set
        rw [if_pos (show (0 : Int32) = 0 from rfl), if_neg l0, if_pos l3, if_pos c]
        exact ⟨rfl, fun _ => ⟨fun _ => trivial, fun _ => ⟨fun _ => ⟨fun _ => trivial, fun z => absurd c z⟩, fun _ => trivial⟩⟩, fun k => absurd rfl k⟩
      · have c' : ¬ N.1 7 = nI j := fun z => c (e7.symm.trans z)
        unfold f_X6_set o_X6_set
        rw [if_pos (show (0 : Int32) = 0 from rfl), if_neg l0, if_pos l3, if_neg c', ← e7]
        exact ⟨rfl, fun o => ⟨fun _ => ⟨fun _ => trivial, fun _ => ⟨fun _ => ⟨fun _ => trivial, fun _ => ⟨o, trivial⟩⟩, fun _ => trivial⟩⟩, fun k => absurd rfl k⟩⟩
    · refine bad (-2) (by decide) (sets_0n q).1 (sets_0n q).2 ?_ ?_
      · unfold f_X6_set
        rw [if_pos (show (0 : Int32) = 0 from rfl)]
        rcases d with d | d
        · rw [if_pos d]
        · split
          · rfl
          · rw [if_neg]
            intro z
            rw [Int32.lt_iff_toInt_lt] at d z
            have : (2 : Int32).toInt = 2 := by decide
            have : (3 : Int32).toInt = 3 := by decide
            omega
      · unfold o_X6_set
        refine ⟨fun _ => ⟨fun _ => trivial, fun d0 => ⟨fun d3 => ?_, fun _ => trivial⟩⟩, fun k => absurd rfl k⟩
        rcases d with d | d
        · exact absurd d d0
        · exfalso
          rw [Int32.lt_iff_toInt_lt] at d d3
          have : (2 : Int32).toInt = 2 := by decide
          have : (3 : Int32).toInt = 3 := by decide
          omega
  · have n10 : ¬ (1 : Int32) = 0 := by decide
    rcases (show (f_X7_in a2 1 30 = true ∧ ∃ j, 1 ≤ j ∧ j ≤ 30 ∧ a2 = nI j) ∨ (f_X7_in a2 1 30 = false ∧ (a2 < 1 ∨ 30 < a2)) from in_rng a2 (lo := 1) (hi := 30) (by decide) (by decide)) with ⟨q, j, hj0, hj, rfl⟩ | ⟨q, d⟩
    · have l0 : ¬ nI j < 1 := nI_nlt (show 1 ≤ j by omega) (by omega)
      have l3 : ¬ 30 < nI j := nI_nlt (show j ≤ 30 by omega) (by decide)
      refine good 313 j (setI N 8 (nI j)) (Or.inr rfl) ⟨?_, ?_⟩ rfl (sets_1y q).1 (sets_1y q).2 rfl (fun c => ?_) (fun c => ?_)
      · rw [pk_un (by decide)]
        exact K.2.1.2.2.2.1.1
      · rw [pk_us]
        exact ⟨j, hj0, hj, rfl⟩
      · have c : N.1 8 = nI j := e8.trans c
        unfold f_X6_set o_X6_set
        rw [if_neg n10, if_pos (show (1 : Int32) = 1 from rfl), if_neg l0, if_neg l3, if_pos c]
        exact ⟨rfl, fun k => absurd k n10, fun _ => ⟨fun _ => ⟨fun _ => trivial, fun _ => ⟨fun _ => trivial, fun _ => ⟨fun _ => trivial, fun z => absurd c z⟩⟩⟩, fun k => absurd rfl k⟩⟩
      · have c' : ¬ N.1 8 = nI j := fun z => c (e8.symm.trans z)
        unfold f_X6_set o_X6_set
        rw [if_neg n10, if_pos (show (1 : Int32) = 1 from rfl), if_neg l0, if_neg l3, if_neg c', ← e8]
        exact ⟨rfl, fun o => ⟨fun k => absurd k n10, fun _ => ⟨fun _ => ⟨fun _ => trivial, fun _ => ⟨fun _ => trivial, fun _ => ⟨fun _ => trivial, fun _ => ⟨o, trivial⟩⟩⟩⟩, fun k => absurd rfl k⟩⟩⟩
    · refine bad (-2) (by decide) (sets_1n q).1 (sets_1n q).2 ?_ ?_
      · unfold f_X6_set
        rw [if_neg n10, if_pos (show (1 : Int32) = 1 from rfl)]
        rcases d with d | d
        · rw [if_pos d]
        · split <;> first | rfl | rw [if_pos d]
      · unfold o_X6_set
        refine ⟨fun k => absurd k n10, fun _ => ⟨fun _ => ⟨fun _ => trivial, fun d0 => ⟨fun _ => trivial, fun d3 => ?_⟩⟩, fun k => absurd rfl k⟩⟩
        rcases d with d | d
        · exact absurd d d0
        · exact absurd d d3
  · refine bad (-1) (by decide) (sets_n q).1 (sets_n q).2 ?_ ?_
    · unfold f_X6_set
      rw [if_neg c0, if_neg c1]
    · unfold o_X6_set
      exact ⟨fun k => absurd k c0, fun _ => ⟨fun k => absurd k c1, fun _ => trivial⟩⟩
