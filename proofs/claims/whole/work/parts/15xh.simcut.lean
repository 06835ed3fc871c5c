/-! PURE PART. cut, the call -/
section REF
variable {M N F P : CS} {Q : HS} {E O S : CS} {n : Nat} {r : CS → Int32 × CS} {oR : CS → Prop}
theorem ref_bad (h : REL M N F P Q E O S n) {c : Int32} (hc : c < 0) (o1 : oR (f_X7_putAside S)) (e1 : r (f_X7_putAside S) = (c, f_X7_putAside S)) : (bind1 (f_X7_putAside S) (fun z1 => ((oR z1) ∧ (bind1 (r z1) (fun z3 => ((o_X7_act z3.2 z3.1) ∧ (bind1 (f_X7_act z3.2 z3.1) (fun z5 => True)))))))) ∧ c = (bind1 (f_X7_putAside S) (fun z1 => (bind1 (r z1) (fun z3 => (bind1 (f_X7_act z3.2 z3.1) (fun z5 => (z5.1, z5.2))))))).1 ∧ REL M N F P Q E O (bind1 (f_X7_putAside S) (fun z1 => (bind1 (r z1) (fun z3 => (bind1 (f_X7_act z3.2 z3.1) (fun z5 => (z5.1, z5.2))))))).2 (n + 1) := by
  have KA : OKS N ((f_X7_putAside S).2 0) (n + 1) := by rw [aside0]; exact h.1.mono (Nat.le_succ n)
  obtain ⟨o, x1, x2⟩ := act_err h (chg.rf (f_X7_putAside S)) KA hc F E
  have o2 := act_o (A := r) (oA := oR) (S := S) o1
  rw [e1] at o2
  dsimp only at o2
  rw [act_e, e1]
  dsimp only
  exact ⟨o2 o, x1.symm, x2⟩
theorem ref_good (h : REL M N F P Q E O S n) {c : Int32} {Z N' : CS} {B : Nat} (hB : B ≤ 50 * (n + 1)) (o1 : oR (f_X7_putAside S)) (e1 : r (f_X7_putAside S) = (c, Z)) (cz : chg (f_X7_putAside S) Z) (H : OKB N' (Z.2 0) B) (E' : CS) : (bind1 (f_X7_putAside S) (fun z1 => ((oR z1) ∧ (bind1 (r z1) (fun z3 => ((o_X7_act z3.2 z3.1) ∧ (bind1 (f_X7_act z3.2 z3.1) (fun z5 => True)))))))) ∧ o_X6_endAct M (f_X5_copyFrom F N) Q c ∧ (f_X6_endAct M (f_X5_copyFrom F N) Q c).1 = (bind1 (f_X7_putAside S) (fun z1 => (bind1 (r z1) (fun z3 => (bind1 (f_X7_act z3.2 z3.1) (fun z5 => (z5.1, z5.2))))))).1 ∧ REL M N' (f_X5_copyFrom F N) P (f_X6_endAct M (f_X5_copyFrom F N) Q c).2 E' O (bind1 (f_X7_putAside S) (fun z1 => (bind1 (r z1) (fun z3 => (bind1 (f_X7_act z3.2 z3.1) (fun z5 => (z5.1, z5.2))))))).2 (n + 1) := by
  obtain ⟨o, a1, a2, a3, a4⟩ := act_fin h cz (H.fin hB) c E'
  have o2 := act_o (A := r) (oA := oR) (S := S) o1
  rw [e1] at o2
  rw [act_e, e1]
  exact ⟨o2 o, a2, a3.trans a1.symm, a4⟩
end REF
theorem sim_cut (M : CS) (N : CS) (F : CS) (P : CS) (Q : HS) (E : CS) (O : CS) (S : CS) (n : Nat) (a1 : Int32) (h : REL M N F P Q E O S n) (hn : n < 512) : (o_X6_cut M N F Q E a1) ∧ (o_X7_cut S a1) ∧ (f_X6_cut M N F Q E a1).1 = (f_X7_cut S a1).1 ∧ REL M ((f_X6_cut M N F Q E a1).2.1) ((f_X6_cut M N F Q E a1).2.2.1) P ((f_X6_cut M N F Q E a1).2.2.2.1) ((f_X6_cut M N F Q E a1).2.2.2.2) O ((f_X7_cut S a1).2) (n + 1) := by
  have HB := relB h
  have K := HB.toS
  have R := HB.2.2.1
  have bad : ∀ c : Int32, c < 0 → f_X7_cuts (f_X7_putAside S) a1 = (c, f_X7_putAside S) → o_X7_cuts (f_X7_putAside S) a1 → f_X6_cut M N F Q E a1 = (c, N, F, Q, E) → o_X6_cut M N F Q E a1 → (o_X6_cut M N F Q E a1) ∧ (o_X7_cut S a1) ∧ (f_X6_cut M N F Q E a1).1 = (f_X7_cut S a1).1 ∧ REL M ((f_X6_cut M N F Q E a1).2.1) ((f_X6_cut M N F Q E a1).2.2.1) P ((f_X6_cut M N F Q E a1).2.2.2.1) ((f_X6_cut M N F Q E a1).2.2.2.2) O ((f_X7_cut S a1).2) (n + 1) := by
    intro c hc e1 o1 e2 o2
    obtain ⟨x1, x2, x3⟩ := ref_bad h (r := fun z => f_X7_cuts z a1) (oR := fun z => o_X7_cuts z a1) hc o1 e1
    rw [e2]
    exact ⟨o2, x1, x2, x3⟩
  rcases ver_c K a1 with ⟨q1, q2, q3⟩ | ⟨v, hv, rfl, q1, q2, q3⟩
  · refine bad (-1) (by decide) ?_ ?_ ?_ ?_
    · unfold f_X7_cuts
      rw [q3, if_neg (by decide)]
    · unfold o_X7_cuts
      rw [q3]
      exact ⟨q2, fun k => (by cases k), fun _ => trivial⟩
    · unfold f_X6_cut
      rw [q1, if_neg (by decide)]
    · unfold o_X6_cut
      rw [q1]
      exact ⟨fun k => (by cases k), fun _ => trivial⟩
  · have v24 := hv.1
    have q : nI v = 0 ↔ v = 0 := nI_eq (b := 0) (by omega) (by decide)
    obtain ⟨oh, eh⟩ := hangs_n (S := f_X7_putAside S) v24
    by_cases c : v = 0
    · refine bad (-4) (by decide) ?_ ?_ ?_ ?_
      · unfold f_X7_cuts
        rw [q3, if_pos rfl, if_pos (q.mpr c)]
      · unfold o_X7_cuts
        exact ⟨q2, fun _ => ⟨fun _ => trivial, fun k => absurd (q.mpr c) k⟩, fun _ => trivial⟩
      · unfold f_X6_cut
        rw [q1, if_pos rfl, if_pos (q.mpr c)]
      · unfold o_X6_cut
        exact ⟨fun _ => ⟨fun _ => trivial, fun k => absurd (q.mpr c) k⟩, fun _ => trivial⟩
    · have qc : ¬ nI v = 0 := fun z => c (q.mp z)
      by_cases g : rH ((f_X7_putAside S).2 0) v = true
      · obtain ⟨o1, Z, e1, cz, H⟩ := t_cut HB hv (by omega) g M E
        obtain ⟨x1, x2, x3, x4⟩ := ref_good h (r := fun z => f_X7_cuts z (nI v)) (oR := fun z => o_X7_cuts z (nI v)) (show 50 * n ≤ 50 * (n + 1) by omega) o1 e1 cz H (f_X6_giveRoot M (f_X5_cutDifference N (nI v)) E (nI v) (f_X5_sourceOf (f_X5_cutDifference N (nI v)) (nI v))).2
        have ek : f_X5_isKept N (nI v) = true := (kept_n R hv).trans g
        have e2 : f_X6_cut M N F Q E (nI v) = ((f_X6_endAct M (f_X5_copyFrom F N) Q (f_X5_trees (f_X6_giveRoot M (f_X5_cutDifference N (nI v)) E (nI v) (f_X5_sourceOf (f_X5_cutDifference N (nI v)) (nI v))).1)).1, (f_X6_giveRoot M (f_X5_cutDifference N (nI v)) E (nI v) (f_X5_sourceOf (f_X5_cutDifference N (nI v)) (nI v))).1, f_X5_copyFrom F N, (f_X6_endAct M (f_X5_copyFrom F N) Q (f_X5_trees (f_X6_giveRoot M (f_X5_cutDifference N (nI v)) E (nI v) (f_X5_sourceOf (f_X5_cutDifference N (nI v)) (nI v))).1)).2, (f_X6_giveRoot M (f_X5_cutDifference N (nI v)) E (nI v) (f_X5_sourceOf (f_X5_cutDifference N (nI v)) (nI v))).2) := by
          unfold f_X6_cut
          rw [q1, if_pos rfl, if_neg qc, ek, if_pos rfl]
          rfl
        have o2 : o_X6_cut M N F Q E (nI v) := ⟨fun _ => ⟨fun k => absurd k qc, fun _ => ⟨fun _ => ⟨x2, trivial⟩, fun k => absurd ek k⟩⟩, fun k => absurd q1 k⟩
        rw [e2]
        exact ⟨o2, x1, x3, x4⟩
      · have g' : ¬ f_X5_isKept N (nI v) = true := by rw [kept_n R hv]; exact g
        refine bad (-5) (by decide) ?_ ?_ ?_ ?_
        · unfold f_X7_cuts
          rw [q3, if_pos rfl, if_neg qc, eh, if_neg g]
        · unfold o_X7_cuts
          rw [eh]
          exact ⟨q2, fun _ => ⟨fun k => absurd k qc, fun _ => ⟨oh, fun k => absurd k g, fun _ => trivial⟩⟩, fun _ => trivial⟩
        · unfold f_X6_cut
          rw [q1, if_pos rfl, if_neg qc, if_neg g']
        · unfold o_X6_cut
          exact ⟨fun _ => ⟨fun k => absurd k qc, fun _ => ⟨fun k => absurd k g', fun _ => trivial⟩⟩, fun _ => trivial⟩
