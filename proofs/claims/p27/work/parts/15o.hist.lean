/-! PURE PART. the history: what is recorded comes back; acts as a whole -/
def HQ (Q : HS) (k : Nat) : Prop := k ≤ 4 ∧ Q.1.1 = nI k ∧ okH Q ∧ ∀ i j, i < 4 → j < 4 → Q.1.2 i = Q.1.2 j → i = j
def topQ (Q : HS) (j : Nat) : CS := Q.2 (Q.1.2 j)
theorem SAME.trans {A B C : CS} (h : SAME A B) (h2 : SAME B C) : SAME A C := ⟨fun j hj => (h2.1 j hj).trans (h.1 j hj), fun i hi => ⟨(h2.2.1 i hi).1.trans (h.2.1 i hi).1, (h2.2.1 i hi).2.1.trans (h.2.1 i hi).2.1, (h2.2.1 i hi).2.2.trans (h.2.1 i hi).2.2⟩, fun i hi => (h2.2.2 i hi).trans (h.2.2 i hi)⟩
theorem OKB.same {N N' : CS} {s : Nat → Int32} {B : Nat} (h : OKB N s B) (e : SAME N N') : OKB N' s B := ⟨h.1, h.2.1, h.2.2.1.same e, h.2.2.2⟩
theorem dropP_n (p : Nat → Nat) {i : Nat} (hi : i < 4) : dropP p i = p (if i = 3 then 0 else i + 1) := by
  rcases (show i = 0 ∨ i = 1 ∨ i = 2 ∨ i = 3 by omega) with rfl | rfl | rfl | rfl <;> rfl
theorem rec_n {Q : HS} {k : Nat} (h : HQ Q k) (X : CS) : o_X0_record Q X ∧ ∃ k', HQ (f_X0_record Q X) (k' + 1) ∧ SAME X (topQ (f_X0_record Q X) k') ∧ (0 < k → 0 < k' ∧ topQ (f_X0_record Q X) (k' - 1) = topQ Q (k - 1)) := by
  obtain ⟨h1, h2, h3, h4⟩ := h
  refine ⟨h3, ?_⟩
  unfold f_X0_record
  by_cases c : k < 4
  · have e : putH (if Q.1.1 < 4 then Q else dropH Q) X = ((nI (k + 1), Q.1.2), va_up Q.2 (Q.1.2 k) (f_X5_copyFrom (Q.2 (Q.1.2 k)) X)) := by
      rw [h2, if_pos (show nI k < 4 from nI_lt c (by decide))]
      unfold putH
      rw [h2, if_neg (nI_pos (show k < 2 ^ 31 by omega)), if_pos (show nI k < 4 from nI_lt c (by decide)), nI_clamp (by omega), nI_1]
    rw [e]
    refine ⟨k, ⟨by omega, rfl, h3, h4⟩, ?_, fun k0 => ⟨k0, ?_⟩⟩
    · have e2 : topQ ((nI (k + 1), Q.1.2), va_up Q.2 (Q.1.2 k) (f_X5_copyFrom (Q.2 (Q.1.2 k)) X)) k = f_X5_copyFrom (Q.2 (Q.1.2 k)) X := if_pos rfl
      rw [e2]
      exact copy_same _ X
    · exact if_neg (fun z => by have := h4 _ _ (by omega) c z; omega)
  · have k4 : k = 4 := by omega
    subst k4
    have e : putH (if Q.1.1 < 4 then Q else dropH Q) X = ((nI 4, dropP Q.1.2), va_up Q.2 (dropP Q.1.2 3) (f_X5_copyFrom (Q.2 (dropP Q.1.2 3)) X)) := by
      rw [h2, if_neg (show ¬ nI 4 < 4 by decide)]
      rfl
    rw [e]
    refine ⟨3, ⟨by decide, rfl, okH_drop h3, fun i j hi hj q => ?_⟩, ?_, fun _ => ⟨by decide, ?_⟩⟩
    · have q : dropP Q.1.2 i = dropP Q.1.2 j := q
      rw [dropP_n _ hi, dropP_n _ hj] at q
      have := h4 _ _ (by split <;> omega) (by split <;> omega) q
      split at this <;> split at this <;> omega
    · have e2 : topQ ((nI 4, dropP Q.1.2), va_up Q.2 (dropP Q.1.2 3) (f_X5_copyFrom (Q.2 (dropP Q.1.2 3)) X)) 3 = f_X5_copyFrom (Q.2 (dropP Q.1.2 3)) X := if_pos rfl
      rw [e2]
      exact copy_same _ X
    · refine (if_neg (fun z => ?_)).trans ?_
      · have z : dropP Q.1.2 2 = dropP Q.1.2 3 := z
        rw [dropP_n _ (by decide), dropP_n _ (by decide)] at z
        have := h4 _ _ (by decide) (by decide) z
        simp at this
      · rfl
theorem undo_n {Q : HS} {k : Nat} (h : HQ Q (k + 1)) (M N : CS) : o_X6_undo M N Q ∧ f_X6_undo M N Q = (nI k, f_X5_copyFrom N (topQ Q k), ((nI k, Q.1.2), Q.2)) ∧ HQ ((nI k, Q.1.2), Q.2) k := by
  obtain ⟨h1, h2, h3, h4⟩ := h
  have e : f_X0_takeLatest Q N = (true, ((nI k, Q.1.2), Q.2), f_X5_copyFrom N (topQ Q k)) := by
    unfold f_X0_takeLatest
    rw [h2, nI_pred, if_neg (nI_pos (show k < 2 ^ 31 by omega)), if_pos (show nI k < 4 from nI_lt (show k < 4 by omega) (by decide)), nI_clamp (by omega)]
    rfl
  refine ⟨⟨h3, fun _ => trivial, fun _ => trivial⟩, ?_, ⟨by omega, rfl, h3, h4⟩⟩
  unfold f_X6_undo
  rw [e]
  rfl
theorem end_g (M F : CS) {Q : HS} {c : Int32} (hc : ¬ c < 0) (ho : okH Q) : o_X6_endAct M F Q c ∧ f_X6_endAct M F Q c = (c, f_X0_record Q F) := by
  unfold o_X6_endAct f_X6_endAct
  rw [if_neg hc]
  exact ⟨⟨fun z => absurd z hc, fun _ => ⟨ho, trivial⟩⟩, rfl⟩
theorem end_b (M F : CS) {Q : HS} {c : Int32} (hc : c < 0) : o_X6_endAct M F Q c ∧ f_X6_endAct M F Q c = (c, Q) := by
  unfold o_X6_endAct f_X6_endAct
  rw [if_pos hc]
  exact ⟨⟨fun _ => trivial, fun z => absurd hc z⟩, rfl⟩
/-- the history behind an act that answers c -/
def afterQ (Q : HS) (F N : CS) (c : Int32) : HS := if c < 0 then Q else f_X0_record Q (f_X5_copyFrom F N)
theorem end_a (M F N : CS) {Q : HS} (c : Int32) (ho : okH Q) : o_X6_endAct M (f_X5_copyFrom F N) Q c ∧ f_X6_endAct M (f_X5_copyFrom F N) Q c = (c, afterQ Q F N c) := by
  unfold afterQ
  by_cases hc : c < 0
  · rw [if_pos hc]
    exact end_b M _ hc
  · rw [if_neg hc]
    exact end_g M _ hc ho
section ACT3
variable {M N F : CS} {Q : HS} {E : CS} {a a2 a3 c : Int32} {N' E' : CS}
theorem ask_e (ho : okH Q) (e : f_X6_tryAsk M N E a = (c, N', E')) : o_X6_ask M N F Q E a ∧ f_X6_ask M N F Q E a = (c, N', f_X5_copyFrom F N, afterQ Q F N c, E') := by
  obtain ⟨o, f⟩ := end_a M F N c ho
  unfold o_X6_ask f_X6_ask f_X6_beginAct
  simp only [bind1]
  rw [e]
  dsimp only
  rw [f]
  exact ⟨⟨o, trivial⟩, rfl⟩
theorem root_e (ho : okH Q) (e : f_X6_tryRoot M N E a = (c, N', E')) : o_X6_root M N F Q E a ∧ f_X6_root M N F Q E a = (c, N', f_X5_copyFrom F N, afterQ Q F N c, E') := by
  obtain ⟨o, f⟩ := end_a M F N c ho
  unfold o_X6_root f_X6_root f_X6_beginAct
  simp only [bind1]
  rw [e]
  dsimp only
  rw [f]
  exact ⟨⟨o, trivial⟩, rfl⟩
theorem join_e (ho : okH Q) (e : f_X6_tryJoin M N E a = (c, N', E')) : o_X6_join M N F Q E a ∧ f_X6_join M N F Q E a = (c, N', f_X5_copyFrom F N, afterQ Q F N c, E') := by
  obtain ⟨o, f⟩ := end_a M F N c ho
  unfold o_X6_join f_X6_join f_X6_beginAct
  simp only [bind1]
  rw [e]
  dsimp only
  rw [f]
  exact ⟨⟨o, trivial⟩, rfl⟩
theorem make_e (ho : okH Q) (e : f_X6_tryMake M N a a2 a3 = (c, N')) : o_X6_make M N F Q a a2 a3 ∧ f_X6_make M N F Q a a2 a3 = (c, N', f_X5_copyFrom F N, afterQ Q F N c) := by
  obtain ⟨o, f⟩ := end_a M F N c ho
  unfold o_X6_make f_X6_make f_X6_beginAct
  simp only [bind1]
  rw [e]
  dsimp only
  rw [f]
  exact ⟨⟨o, trivial⟩, rfl⟩
theorem mix_e (ho : okH Q) (e : f_X6_tryMix M N a a2 a3 = (c, N')) : o_X6_mix M N F Q a a2 a3 ∧ f_X6_mix M N F Q a a2 a3 = (c, N', f_X5_copyFrom F N, afterQ Q F N c) := by
  obtain ⟨o, f⟩ := end_a M F N c ho
  unfold o_X6_mix f_X6_mix f_X6_beginAct
  simp only [bind1]
  rw [e]
  dsimp only
  rw [f]
  exact ⟨⟨o, trivial⟩, rfl⟩
end ACT3
section ACT4
variable {N : CS} {s : Nat → Int32} {B : Nat} {Q : HS}
/-- cut, whole -/
theorem cut_e (h : OKB N s B) (ho : okH Q) {v : Nat} (hv : rP s v) (M F E : CS) : (v = 0 → o_X6_cut M N F Q E (nI v) ∧ f_X6_cut M N F Q E (nI v) = (-4, N, F, Q, E)) ∧ (0 < v → ¬ rH s v = true → o_X6_cut M N F Q E (nI v) ∧ f_X6_cut M N F Q E (nI v) = (-5, N, F, Q, E)) ∧ (0 < v → rH s v = true → ∃ y N' E', (y = v ∨ y = rU s v) ∧ ¬ rR s y ∧ rP s y ∧ OKB N' (ct s v y) B ∧ o_X6_cut M N F Q E (nI v) ∧ f_X6_cut M N F Q E (nI v) = (nI (cntB (tB (ct s v y)) 24), N', f_X5_copyFrom F N, f_X0_record Q (f_X5_copyFrom F N), E')) := by
  have R := h.2.2.1
  have v24 := hv.1
  have hh := has_P R hv
  unfold o_X6_cut f_X6_cut f_X6_beginAct
  rw [hh, if_pos rfl, kept_n R hv]
  refine ⟨fun c => ?_, fun c g => ?_, fun c g => ?_⟩
  · have z : nI v = 0 := by rw [c]; rfl
    rw [if_pos z]
    exact ⟨⟨fun _ => ⟨fun _ => trivial, fun k => absurd z k⟩, fun _ => trivial⟩, rfl⟩
  · have z := nI_ne0 c (show v < 2 ^ 31 by omega)
    rw [if_neg z, if_neg g]
    exact ⟨⟨fun _ => ⟨fun k => absurd k z, fun _ => ⟨fun k => absurd k g, fun _ => trivial⟩⟩, fun _ => trivial⟩, rfl⟩
  · have z := nI_ne0 c (show v < 2 ^ 31 by omega)
    obtain ⟨y, E', y1, y2, y3, y4, y5⟩ := t_cut h hv c g M E
    have e : f_X5_trees (f_X5_addRoot (f_X5_cutDifference N (nI v)) (nI y)) = nI (cntB (tB (ct s v y)) 24) := trees_c y5.2.2.1
    have le : ¬ nI (cntB (tB (ct s v y)) 24) < 0 := nI_pos (by have := cntB_le (tB (ct s v y)) 24; omega)
    obtain ⟨o, f⟩ := end_g M (f_X5_copyFrom F N) le ho
    rw [if_neg z, if_pos g]
    simp only [bind1]
    rw [y4]
    dsimp only
    rw [e, f]
    exact ⟨y, _, E', y1, y2, y3, y5, ⟨fun _ => ⟨fun k => absurd k z, fun _ => ⟨fun _ => ⟨o, trivial⟩, fun k => absurd g k⟩⟩, fun _ => trivial⟩, rfl⟩
theorem leaf_c (h : OKB N s B) {v : Nat} (hv : rP s v) : (0 < f_X5_madeOf N (nI v)) ∨ (¬ 0 < f_X5_madeOf N (nI v) ∧ ∀ w, rP s w → 0 < w → rU s w ≠ v) := by
  obtain ⟨k, k1, k2, k3⟩ := leaf_n h.2.2.1 hv.1 h.1
  rw [k2]
  rcases Nat.eq_zero_or_pos k with z | z
  · exact Or.inr ⟨by rw [z]; decide, k3 z⟩
  · exact Or.inl ((nI_ltI (a := 0) (by decide) (by omega)).mpr z)
theorem rem_e (h : OKB N s B) (ho : okH Q) {v : Nat} (hv : rP s v) (M F : CS) : (o_X6_remove M N F Q (nI v) ∧ f_X6_remove M N F Q (nI v) = (-4, N, F, Q)) ∨ (0 < v ∧ ∃ N', OKB N' (goneR s v) B ∧ o_X6_remove M N F Q (nI v) ∧ f_X6_remove M N F Q (nI v) = (nI (cntB (pB (goneR s v)) 24), N', f_X5_copyFrom F N, f_X0_record Q (f_X5_copyFrom F N))) := by
  have R := h.2.2.1
  have v24 := hv.1
  have hh := has_P R hv
  have lf := leaf_c h hv
  by_cases c : v = 0
  · have z : nI v = 0 := by rw [c]; rfl
    unfold o_X6_remove f_X6_remove
    rw [hh, if_pos rfl, if_pos z]
    exact Or.inl ⟨⟨fun _ => ⟨fun _ => trivial, fun k => absurd z k⟩, fun _ => trivial⟩, rfl⟩
  · have z := nI_ne0 (show 0 < v by omega) (show v < 2 ^ 31 by omega)
    rcases lf with g | ⟨g, leaf⟩
    · unfold o_X6_remove f_X6_remove
      rw [hh, if_pos rfl, if_neg z, if_pos g]
      exact Or.inl ⟨⟨fun _ => ⟨fun k => absurd k z, fun _ => ⟨fun _ => trivial, fun k => absurd g k⟩⟩, fun _ => trivial⟩, rfl⟩
    · have H := t_rem h hv (by omega) leaf
      have e : f_X5_howMany (f_X5_drop (remN N (nI v)) (nI v)) = nI (cntB (pB (goneR s v)) 24) := many_c H.2.2.1
      have le : ¬ nI (cntB (pB (goneR s v)) 24) < 0 := nI_pos (by have := cntB_le (pB (goneR s v)) 24; omega)
      obtain ⟨o, f⟩ := end_g M (f_X5_copyFrom F N) le ho
      rw [← e] at o f
      refine Or.inr ⟨by omega, _, H, ?_⟩
      rw [← e]
      unfold o_X6_remove f_X6_remove f_X6_beginAct
      rw [hh, if_pos rfl, if_neg z, if_neg g]
      simp only [bind1]
      unfold remN at o f ⊢
      by_cases a : f_X5_isRoot N (nI v) = true
      · by_cases b : f_X5_isKept N (nI v) = true
        · rw [if_pos a, if_pos b] at o f
          simp only [if_pos a, if_pos b]
          rw [f]
          exact ⟨⟨fun _ => ⟨fun k => absurd k z, fun _ => ⟨fun k => absurd k g, fun _ => ⟨fun _ => ⟨fun _ => ⟨o, trivial⟩, fun k => absurd b k⟩, fun k => absurd a k⟩⟩⟩, fun _ => trivial⟩, rfl⟩
        · rw [if_pos a, if_neg b] at o f
          simp only [if_pos a, if_neg b]
          rw [f]
          exact ⟨⟨fun _ => ⟨fun k => absurd k z, fun _ => ⟨fun k => absurd k g, fun _ => ⟨fun _ => ⟨fun k => absurd k b, fun _ => ⟨o, trivial⟩⟩, fun k => absurd a k⟩⟩⟩, fun _ => trivial⟩, rfl⟩
      · rw [if_neg a] at o f
        simp only [if_neg a]
        rw [f]
        exact ⟨⟨fun _ => ⟨fun k => absurd k z, fun _ => ⟨fun k => absurd k g, fun _ => ⟨fun k => absurd k a, fun _ => ⟨o, trivial⟩⟩⟩⟩, fun _ => trivial⟩, rfl⟩
/-- the settings -/
theorem set_e (h : OKB N s B) (ho : okH Q) (M F : CS) {k j : Nat} (hk : (k = 0 ∧ j ≤ 2) ∨ (k = 1 ∧ 1 ≤ j ∧ j ≤ 30)) : (o_X6_set M N F Q (nI k) (nI j) ∧ f_X6_set M N F Q (nI k) (nI j) = (-5, N, F, Q)) ∨ ∃ c N', ¬ c < 0 ∧ OKB N' (upd s (312 + k) (nI j)) B ∧ o_X6_set M N F Q (nI k) (nI j) ∧ f_X6_set M N F Q (nI k) (nI j) = (c, N', f_X5_copyFrom F N, f_X0_record Q (f_X5_copyFrom F N)) := by
  have e7 : N.1 7 = s 312 := h.2.2.1.2.2.2.2.2.2 7 (by decide) (by decide)
  have e8 : N.1 8 = s 313 := h.2.2.1.2.2.2.2.2.2 8 (by decide) (by decide)
  obtain ⟨g1, m, m1, m2, m3⟩ := h.2.1.2.2.2.1
  have H : k ≤ 1 → G3 (upd s (312 + k) (nI j)) → OKB (setI N (7 + k) (nI j)) (upd s (312 + k) (nI j)) B := fun k1 hG => h.glob (fun i hi => pk_un (by omega)) hG (fun i hi => setI_n _ _ (by omega)) rfl (fun i x y => by
    by_cases d : i = 7 + k
    · rw [d, setI_s, show 305 + (7 + k) = 312 + k by omega, pk_us]
    · rw [setI_n _ _ d, pk_un (by omega)]
      exact h.2.2.1.2.2.2.2.2.2 i x y)
  rcases hk with ⟨rfl, hj⟩ | ⟨rfl, hj0, hj⟩
  · have l0 : ¬ nI j < 0 := nI_pos (by omega)
    have l3 : nI j < 3 := nI_lt (show j < 3 by omega) (by decide)
    unfold o_X6_set f_X6_set f_X6_beginAct
    rw [if_pos (show nI 0 = 0 from rfl), if_neg l0, if_pos l3]
    by_cases c : N.1 7 = nI j
    · rw [if_pos c]
      exact Or.inl ⟨⟨fun _ => ⟨fun _ => trivial, fun _ => ⟨fun _ => ⟨fun _ => trivial, fun z => absurd c z⟩, fun _ => trivial⟩⟩, fun k => absurd rfl k⟩, rfl⟩
    · have le : ¬ N.1 7 < 0 := by
        rw [e7]
        rcases g1 with g | g | g <;> (rw [g]; decide)
      obtain ⟨o, f⟩ := end_g M (f_X5_copyFrom F N) le ho
      rw [if_neg c]
      simp only [bind1]
      rw [f]
      refine Or.inr ⟨_, _, le, H (by decide) ⟨?_, ?_⟩, ⟨fun _ => ⟨fun _ => trivial, fun _ => ⟨fun _ => ⟨fun _ => trivial, fun _ => ⟨o, trivial⟩⟩, fun _ => trivial⟩⟩, fun k => absurd rfl k⟩, rfl⟩
      · rw [pk_us]
        rcases (show j = 0 ∨ j = 1 ∨ j = 2 by omega) with rfl | rfl | rfl
        · exact Or.inl rfl
        · exact Or.inr (Or.inl rfl)
        · exact Or.inr (Or.inr rfl)
      · rw [pk_un (by decide)]
        exact ⟨m, m1, m2, m3⟩
  · have n10 : ¬ nI 1 = 0 := by decide
    have l0 : ¬ nI j < 1 := nI_nlt (show 1 ≤ j by omega) (by omega)
    have l3 : ¬ 30 < nI j := nI_nlt (show j ≤ 30 by omega) (by decide)
    unfold o_X6_set f_X6_set f_X6_beginAct
    rw [if_neg n10, if_pos (show nI 1 = 1 from rfl), if_neg l0, if_neg l3]
    by_cases c : N.1 8 = nI j
    · rw [if_pos c]
      exact Or.inl ⟨⟨fun k => absurd k n10, fun _ => ⟨fun _ => ⟨fun _ => trivial, fun _ => ⟨fun _ => trivial, fun _ => ⟨fun _ => trivial, fun z => absurd c z⟩⟩⟩, fun k => absurd rfl k⟩⟩, rfl⟩
    · have le : ¬ N.1 8 < 0 := by
        rw [e8, m3]
        exact nI_pos (by omega)
      obtain ⟨o, f⟩ := end_g M (f_X5_copyFrom F N) le ho
      rw [if_neg c]
      simp only [bind1]
      rw [f]
      refine Or.inr ⟨_, _, le, H (by decide) ⟨?_, ?_⟩, ⟨fun k => absurd k n10, fun _ => ⟨fun _ => ⟨fun _ => trivial, fun _ => ⟨fun _ => trivial, fun _ => ⟨fun _ => trivial, fun _ => ⟨o, trivial⟩⟩⟩⟩, fun k => absurd rfl k⟩⟩, rfl⟩
      · rw [pk_un (by decide)]
        exact g1
      · rw [pk_us]
        exact ⟨j, hj0, hj, rfl⟩
end ACT4
