/-! PURE PART. perform, the call -/
section PRF
theorem perf_c (m : Nat) (M N F E : CS) (Q : HS) (z : Bool × CS) : (bind1 z (fun z2 => (if z2.1 = true then (bind1 (f_X6_beginAct M N F) (fun z4 => (l_X6_perform_27 M Q z2 z4 m E N 0))) else (((-100) - z2.2.1 2), M, N, F, Q, E, z2.2)))) = (if z.1 = true then l_X6_perform_27 M Q z (f_X5_copyFrom F N) m E N 0 else (((-100) - z.2.1 2), M, N, F, Q, E, z.2)) ∧ ((z.1 = true → ol_X6_perform_27 M Q z (f_X5_copyFrom F N) m E N 0) → (bind1 z (fun z2 => ((z2.1 = true → (bind1 (f_X6_beginAct M N F) (fun z4 => (ol_X6_perform_27 M Q z2 z4 m E N 0)))) ∧ (¬ (z2.1 = true) → True))))) := ⟨rfl, fun h => ⟨h, fun _ => trivial⟩⟩
theorem perf_r (g : CS → Int32 → Int32 × CS) (og : CS → Int32 → Prop) (S : CS) : (bind1 (g S 0) (fun z2 => (if z2.2.1 14 = 0 then (bind1 (f_X7_putAside z2.2) (fun z4 => (bind1 (g z4 1) (fun z6 => (if z6.1 < 0 then (bind1 (f_X7_putBack z6.2) (fun z10 => (bind1 (f_X7_act z10 z6.1) (fun z12 => (z12.1, z12.2))))) else (bind1 (f_X7_act z6.2 z6.1) (fun z9 => (z9.1, z9.2)))))))) else (((-100) - z2.2.1 13), z2.2)))) = (if (g S 0).2.1 14 = 0 then (if (g (f_X7_putAside (g S 0).2) 1).1 < 0 then f_X7_act (f_X7_putBack (g (f_X7_putAside (g S 0).2) 1).2) (g (f_X7_putAside (g S 0).2) 1).1 else f_X7_act (g (f_X7_putAside (g S 0).2) 1).2 (g (f_X7_putAside (g S 0).2) 1).1) else (((-100) - (g S 0).2.1 13), (g S 0).2)) ∧ (og S 0 → ((g S 0).2.1 14 = 0 → (og (f_X7_putAside (g S 0).2) 1 ∧ ((g (f_X7_putAside (g S 0).2) 1).1 < 0 → o_X7_act (f_X7_putBack (g (f_X7_putAside (g S 0).2) 1).2) (g (f_X7_putAside (g S 0).2) 1).1) ∧ (¬ (g (f_X7_putAside (g S 0).2) 1).1 < 0 → o_X7_act (g (f_X7_putAside (g S 0).2) 1).2 (g (f_X7_putAside (g S 0).2) 1).1))) → ((og S 0) ∧ (bind1 (g S 0) (fun z2 => ((z2.2.1 14 = 0 → (bind1 (f_X7_putAside z2.2) (fun z4 => ((og z4 1) ∧ (bind1 (g z4 1) (fun z6 => ((z6.1 < 0 → (bind1 (f_X7_putBack z6.2) (fun z10 => ((o_X7_act z10 z6.1) ∧ (bind1 (f_X7_act z10 z6.1) (fun z12 => True)))))) ∧ (¬ (z6.1 < 0) → ((o_X7_act z6.2 z6.1) ∧ (bind1 (f_X7_act z6.2 z6.1) (fun z9 => True))))))))))) ∧ (¬ (z2.2.1 14 = 0) → True)))))) := ⟨rfl, fun h1 h2 => ⟨h1, fun k => ⟨(h2 k).1, fun a => ⟨(h2 k).2.1 a, trivial⟩, fun a => ⟨(h2 k).2.2 a, trivial⟩⟩, fun _ => trivial⟩⟩
end PRF
theorem sim_perform (M : CS) (N : CS) (F : CS) (P : CS) (Q : HS) (E : CS) (O : CS) (S : CS) (n : Nat) (h : REL M N F P Q E O S n) (hn : n < 512) : (o_X6_perform M N F Q E O) ∧ (o_X7_perform S) ∧ (f_X6_perform M N F Q E O).1 = (f_X7_perform S).1 ∧ REL ((f_X6_perform M N F Q E O).2.1) ((f_X6_perform M N F Q E O).2.2.1) ((f_X6_perform M N F Q E O).2.2.2.1) P ((f_X6_perform M N F Q E O).2.2.2.2.1) ((f_X6_perform M N F Q E O).2.2.2.2.2.1) ((f_X6_perform M N F Q E O).2.2.2.2.2.2) ((f_X7_perform S).2) (n + 1) := by
  have HB : OKB N (S.2 0) (50 * n) := h.1
  obtain ⟨h1, h2, h3, h4, Ln, hL, t1, t2, t3⟩ := rel_mono h
  obtain ⟨t, ht, htx⟩ : ∃ t : Nat → Nat, (∀ i, t i < 65536) ∧ ∀ i, i < Ln → S.2 6 i = nI (t i) := by
    refine ⟨fun i => if i < Ln then (S.2 6 i).toNatClampNeg else 0, fun i => ?_, fun i hi => ?_⟩
    · by_cases c : i < Ln
      · obtain ⟨-, d, d1, d2⟩ := t3 i c
        show (if i < Ln then (S.2 6 i).toNatClampNeg else 0) < 65536
        rw [if_pos c, d2, nI_clamp (by omega)]
        exact d1
      · show (if i < Ln then (S.2 6 i).toNatClampNeg else 0) < 65536
        rw [if_neg c]
        decide
    · obtain ⟨-, d, d1, d2⟩ := t3 i hi
      show S.2 6 i = nI (if i < Ln then (S.2 6 i).toNatClampNeg else 0)
      rw [if_pos hi, d2, nI_clamp (by omega)]
  have hO : CX t Ln O := ⟨t1, fun i hi => (t3 i hi).1.trans (htx i hi)⟩
  have hx : RX t Ln S := ⟨t2, htx⟩
  obtain ⟨ord, er, r1, r2, r3, r4⟩ := read_n hO hL ht
  obtain ⟨og, gg, g13, g14⟩ := go_0 hx hL ht
  obtain ⟨pc1, pc2⟩ := perf_c 17 M N F E Q (f_X1_read O)
  have pc1 : f_X6_perform M N F Q E O = _ := pc1
  have pc2 : _ → o_X6_perform M N F Q E O := fun k => ⟨ord, pc2 k⟩
  obtain ⟨pr1, pr2⟩ := perf_r f_X7_go o_X7_go S
  have pr1 : f_X7_perform S = _ := pr1
  have pr2 : _ → _ → o_X7_perform S := pr2
  rw [pc1, pr1]
  have pr3 := pr2 og
  clear pc1 pr1 pr2 ord
  generalize f_X1_read O = z2 at *
  generalize f_X7_go S 0 = y2 at *
  have T' : ∀ Z : CS, Z.1 7 = S.1 7 → Z.2 6 = S.2 6 → RELT z2.2 Z := fun Z a b => ⟨Ln, hL, r1.trans t1, a.trans t2, fun i hi => by rw [r2, b]; exact t3 i hi⟩
  by_cases c : (RD t Ln 17 0).1 = true
  · have c6 : z2.1 = true := er.trans c
    have y14 : y2.2.1 14 = 0 := by rw [g14, c]; rfl
    rw [if_pos c6, if_pos y14]
    have pr4 := pr3
    obtain ⟨f1, f2, f3⟩ := aside_n y2.2
    have oe := go_oe 1 (f_X7_putAside y2.2)
    have eg := go_e 1 (f_X7_putAside y2.2)
    have gX : G4 (f_X7_putAside y2.2) (setI (setI (f_X7_putAside y2.2) 13 0) 14 0) := ((show G4 (f_X7_putAside y2.2) (f_X7_putAside y2.2) from ⟨fun _ _ => rfl, rfl⟩).set _ (by decide) (by decide)).set _ (by decide) (by decide)
    have x13 : (setI (setI (f_X7_putAside y2.2) 13 0) 14 0).1 13 = nI (PO t Ln 0) := (setI_n _ _ (by decide)).trans (setI_s _ _ _)
    have x14 : (setI (setI (f_X7_putAside y2.2) 13 0) 14 0).1 14 = 0 := setI_s _ _ _
    generalize f_X7_putAside y2.2 = A at *
    generalize setI (setI A 13 0) 14 0 = X at *
    have iA : ∀ j, j < 13 ∨ 18 < j → A.1 j = S.1 j := fun j a => (congrFun f1 j).trans (gg.1 j a)
    have jA : ∀ j, j ≠ 1 → A.2 j = S.2 j := fun j a => (f2 j a).trans (by rw [gg.2])
    have A1 : ∀ j, j < 318 → A.2 1 j = S.2 0 j := fun j hj => (f3 j hj).trans (by rw [gg.2])
    have hX : RX t Ln X := ⟨(gX.1 7 (by omega)).trans ((iA 7 (by omega)).trans t2), fun i hi => by rw [gX.2, jA 6 (by decide)]; exact htx i hi⟩
    have HX : OKB N (X.2 0) (50 * n) := by rw [gX.2, jA 0 (by decide)]; exact HB
    obtain ⟨HK, K14, G⟩ := r4 c
    obtain ⟨K0, ch⟩ := RD_ok 17 0 c
    have hE : o_X6_endAct M (f_X5_copyFrom F N) Q (nI (RD t Ln 17 0).2.2) := by
      obtain ⟨k, -, -, -, ok, -⟩ := h2
      exact ⟨fun _ => trivial, fun _ => ⟨ok, trivial⟩⟩
    have p0 : PO t Ln 0 = 0 := rfl
    obtain ⟨x1, x2, x3⟩ := run_l hL ht K14 HK G (fun k hk => ch k (Nat.zero_le _) hk) hE (RD t Ln 17 0).2.2 0 17 82 (50 * n) E N X rfl K0 (by omega) HX hX x13 x14 (by omega) (by omega)
    rw [← eg] at x3
    have og1 := oe x2
    clear eg oe
    generalize f_X7_go A 1 = R at *
    generalize (RD t Ln 17 0).2.2 = K at *
    have hF : OKS (f_X5_copyFrom F N) (S.2 0) (n + 1) := h1.copy F
    rcases x3 with ⟨N', E', y1, y2', y3, y4⟩ | ⟨N', E', k, err, k16, y1, y2', y3, y4, y5⟩
    · obtain ⟨R1, R2⟩ := R
      have e1 : R1 = nI K := y2'
      subst e1
      have y3 : chQ X R2 := y3
      have ya : chQ A R2 := gX.q.trans y3
      have e : ∀ j, (j < 8 ∨ j = 10 ∨ 18 < j) → R2.1 j = S.1 j := fun j a => (ya.1.1 j a).trans (iA j (by omega))
      have e8 : R2.1 8 = S.1 8 := ya.2.1.trans (iA 8 (by omega))
      have e9 : R2.1 9 = S.1 9 := ya.2.2.trans (iA 9 (by omega))
      have e2 : ∀ j, j ≠ 0 → j ≠ 10 → j ≠ 1 → R2.2 j = S.2 j := fun j a b c => (ya.1.2 j a b).trans (jA j c)
      have nn : ¬ nI K < 0 := nI_pos (by omega)
      have HN : OKS N' (R2.2 0) (n + 1) := y4.fin (by omega)
      obtain ⟨o, a1, a2, a3, a4⟩ := act_gen (Q := Q) (M := M) (N' := N') (P := P) (O := z2.2) (Z := R2) (F' := f_X5_copyFrom F N) (n := n + 1) (h2.cg (e 3 (by omega)) (e2 2 (by decide) (by decide) (by decide))) (hF.congr (fun j hj => by rw [ya.1.2 1 (by decide) (by decide)]; exact A1 j hj)) (by unfold RELP at *; rw [e 5 (by omega), e2 4 (by decide) (by decide) (by decide)]; exact h3) (by unfold RELS at *; rw [e8, e9]; exact h4) (T' R2 (e 7 (by omega)) (e2 6 (by decide) (by decide) (by decide))) HN (nI K) M
      rw [y1]
      dsimp only
      rw [if_neg nn]
      refine ⟨pc2 (fun _ => x1), pr3 (fun _ => ⟨og1, fun k => absurd k nn, fun _ => o⟩), a3.trans a1.symm, a4 _ _⟩
    · obtain ⟨R1, R2⟩ := R
      have e1 : R1 = -4 := y2'
      subst e1
      have y3 : chP X R2 := y3
      have ya : chP A R2 := gX.q.1.trans y3
      have neg : (-4 : Int32) < 0 := by decide
      have b8 : R2.1 8 = nI k := y4
      have b9 : R2.1 9 = err := y5
      obtain ⟨k1, k2, k3⟩ := back_n R2
      rw [y1]
      dsimp only
      rw [if_pos neg]
      have pr5 := pr3 (fun _ => ⟨og1, fun _ => ⟨fun _ => trivial, fun z => absurd neg z⟩, fun z => absurd neg z⟩)
      have ea : f_X7_act (f_X7_putBack R2) (-4) = (-4, f_X7_putBack R2) := if_pos neg
      rw [ea]
      clear ea pr3 pr4
      generalize f_X7_putBack R2 = B at *
      have e : ∀ j, (j < 8 ∨ j = 10 ∨ 18 < j) → B.1 j = S.1 j := fun j a => (congrFun k1 j).trans ((ya.1 j a).trans (iA j (by omega)))
      have e2 : ∀ j, j ≠ 0 → j ≠ 10 → j ≠ 1 → B.2 j = S.2 j := fun j a b c => (k2 j a).trans ((ya.2 j a b).trans (jA j c))
      have e0 : ∀ j, j < 318 → B.2 0 j = S.2 0 j := fun j hj => (k3 j hj).trans (by rw [ya.2 1 (by decide) (by decide)]; exact A1 j hj)
      have c8 : B.1 8 = nI k := (congrFun k1 8).trans b8
      have c9 : B.1 9 = err := (congrFun k1 9).trans b9
      refine ⟨pc2 (fun _ => x1), pr5, rfl, (hF.copy N').congr e0, h2.cg (e 3 (by omega)) (e2 2 (by decide) (by decide) (by decide)), ?_, Or.inr ⟨?_, ?_, ?_, ?_⟩, T' B (e 7 (by omega)) (e2 6 (by decide) (by decide) (by decide))⟩
      · unfold RELP at *
        rw [e 5 (by omega), e2 4 (by decide) (by decide) (by decide)]
        rw [show (setI (setI (setI M 7 1) 8 (nI k)) 9 err).1 3 = M.1 3 from by rw [setI_n _ _ (by decide), setI_n _ _ (by decide), setI_n _ _ (by decide)]]
        exact h3
      · rw [setI_n _ _ (by decide), setI_n _ _ (by decide), setI_s]
        decide
      · rw [c8]
        exact fun z => nI_pos (show k < 2 ^ 31 by omega) (z ▸ (show (-5 : Int32) < 0 by decide))
      · rw [setI_n _ _ (by decide), setI_s, c8]
      · rw [setI_s, c9]
  · have c' : (RD t Ln 17 0).1 = false := by simpa using c
    have c6 : ¬ z2.1 = true := by rw [er]; exact c
    have y14 : ¬ y2.2.1 14 = 0 := by rw [g14, c']; decide
    rw [if_neg c6, if_neg y14]
    refine ⟨pc2 (fun k => absurd k c6), pr3 (fun k => absurd k y14), ?_, ?_, ?_, ?_, ?_, ?_⟩
    · show (-100) - z2.2.1 2 = (-100) - y2.2.1 13
      rw [r3, g13]
    · show OKS N (y2.2.2 0) (n + 1)
      rw [gg.2]
      exact h1
    · exact h2.cg (gg.1 3 (by omega)) (by rw [gg.2])
    · show RELP M P y2.2 (n + 1)
      unfold RELP at *
      rw [gg.1 5 (by omega), gg.2]
      exact h3
    · show RELS M y2.2
      unfold RELS at *
      rw [gg.1 8 (by omega), gg.1 9 (by omega)]
      exact h4
    · exact T' y2.2 (gg.1 7 (by omega)) (by rw [gg.2])
