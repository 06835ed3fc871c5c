/-! PURE PART. undo, keep, restore -/
section HIS
theorem u22 {k : Nat} (hk : k < 4) : ∀ (m i : Nat) (Z : CS), i ≤ 318 → i + m = 319 → Z.1 3 = nI k → ol_X7_undo_22 m Z i ∧ (l_X7_undo_22 m Z i).1 = nI k ∧ (l_X7_undo_22 m Z i).2.1 = Z.1 ∧ (∀ j, j ≠ 0 → (l_X7_undo_22 m Z i).2.2 j = Z.2 j) ∧ (∀ j, i ≤ j → j < 318 → (l_X7_undo_22 m Z i).2.2 0 j = Z.2 2 (318 * k + j)) ∧ ∀ j, j < i → (l_X7_undo_22 m Z i).2.2 0 j = Z.2 0 j := by
  intro m
  induction m with
  | zero => intro i Z h1 h2; omega
  | succ m ih =>
    intro i Z h1 h2 h3
    rw [ol_X7_undo_22, l_X7_undo_22]
    simp only [bind1]
    by_cases q : i < 318
    · have e : (318 * Z.1 3) + nI i = nI (318 * k + i) := by
        rw [h3, show (318 : Int32) = nI 318 from rfl, pk_mul, nI_add]
      rw [if_pos q, e, nI_clamp (by omega)]
      obtain ⟨o, a1, a2, a3, a4, a5⟩ := ih (i + 1) (setF Z 0 (upd (Z.2 0) i (Z.2 2 (318 * k + i)))) (by omega) (by omega) h3
      refine ⟨⟨fun _ => ⟨vp_in_nI (by omega) (by decide), o⟩, fun z => absurd q z⟩, a1, a2, fun j hj => (a3 j hj).trans (setF_n Z _ hj), fun j hj hj2 => ?_, fun j hj => ?_⟩
      · by_cases z : j = i
        · subst z
          rw [a5 _ (by omega), setF_s, pk_us]
        · exact (a4 j (by omega) hj2).trans (congrFun (setF_n Z _ (by decide)) _)
      · rw [a5 j (by omega), setF_s, pk_un (by omega)]
    · rw [if_neg q]
      exact ⟨⟨fun z => absurd z q, fun _ => trivial⟩, h3, rfl, fun _ _ => rfl, fun j a b => by omega, fun _ _ => rfl⟩
theorem k2 : ∀ (m i : Nat) (Z : CS), i ≤ 318 → i + m = 319 → ∃ R : CS, R.1 = Z.1 ∧ (∀ j, j ≠ 4 → R.2 j = Z.2 j) ∧ (∀ j, i ≤ j → j < 318 → R.2 4 j = Z.2 0 j) ∧ (∀ j, j < i → R.2 4 j = Z.2 4 j) ∧ l_X7_keep_2 m Z i = k_X7_keep_27 R ∧ (ok_X7_keep_27 R → ol_X7_keep_2 m Z i) := by
  intro m
  induction m with
  | zero => intro i Z h1 h2; omega
  | succ m ih =>
    intro i Z h1 h2
    rw [ol_X7_keep_2, l_X7_keep_2]
    simp only [bind1]
    by_cases q : i < 318
    · obtain ⟨R, r1, r2, r3, r4, r5, r6⟩ := ih (i + 1) (setF Z 4 (upd (Z.2 4) i (Z.2 0 i))) (by omega) (by omega)
      rw [if_pos q]
      refine ⟨R, r1, fun j hj => (r2 j hj).trans (setF_n Z _ hj), fun j hj hj2 => ?_, fun j hj => ?_, r5, fun o => ⟨fun _ => r6 o, fun z => absurd q z⟩⟩
      · by_cases z : j = i
        · subst z
          rw [r4 _ (by omega), setF_s, pk_us]
        · exact (r3 j (by omega) hj2).trans (congrFun (setF_n Z _ (by decide)) _)
      · rw [r4 j (by omega), setF_s, pk_un (by omega)]
    · rw [if_neg q]
      exact ⟨Z, rfl, fun _ _ => rfl, fun j a b => by omega, fun _ _ => rfl, rfl, fun o => ⟨fun z => absurd z q, fun _ => o⟩⟩
theorem r16 : ∀ (m i : Nat) (Z : CS), i ≤ 318 → i + m = 319 → ∃ R : CS, R.1 = Z.1 ∧ (∀ j, j ≠ 0 → R.2 j = Z.2 j) ∧ (∀ j, i ≤ j → j < 318 → R.2 0 j = Z.2 4 j) ∧ (∀ j, j < i → R.2 0 j = Z.2 0 j) ∧ l_X7_restore_16 m Z i = k_X7_restore_41 R ∧ (ok_X7_restore_41 R → ol_X7_restore_16 m Z i) := by
  intro m
  induction m with
  | zero => intro i Z h1 h2; omega
  | succ m ih =>
    intro i Z h1 h2
    rw [ol_X7_restore_16, l_X7_restore_16]
    simp only [bind1]
    by_cases q : i < 318
    · obtain ⟨R, r1, r2, r3, r4, r5, r6⟩ := ih (i + 1) (setF Z 0 (upd (Z.2 0) i (Z.2 4 i))) (by omega) (by omega)
      rw [if_pos q]
      refine ⟨R, r1, fun j hj => (r2 j hj).trans (setF_n Z _ hj), fun j hj hj2 => ?_, fun j hj => ?_, r5, fun o => ⟨fun _ => r6 o, fun z => absurd q z⟩⟩
      · by_cases z : j = i
        · subst z
          rw [r4 _ (by omega), setF_s, pk_us]
        · exact (r3 j (by omega) hj2).trans (congrFun (setF_n Z _ (by decide)) _)
      · rw [r4 j (by omega), setF_s, pk_un (by omega)]
    · rw [if_neg q]
      exact ⟨Z, rfl, fun _ _ => rfl, fun j a b => by omega, fun _ _ => rfl, rfl, fun o => ⟨fun z => absurd z q, fun _ => o⟩⟩
theorem undo_m (m : Nat) (S : CS) (h : ¬ S.1 3 = 0) : ((if S.1 3 = 0 then ((-5), S) else (bind1 (setI S 3 (S.1 3 - 1)) (fun z2 => (l_X7_undo_22 m z2 0)))) = l_X7_undo_22 m (setI S 3 (S.1 3 - 1)) 0) ∧ (ol_X7_undo_22 m (setI S 3 (S.1 3 - 1)) 0 → ((S.1 3 = 0 → True) ∧ (¬ (S.1 3 = 0) → (bind1 (setI S 3 (S.1 3 - 1)) (fun z2 => (ol_X7_undo_22 m z2 0)))))) := ⟨if_neg h, fun o => ⟨fun _ => trivial, fun _ => o⟩⟩
theorem undo_e (S : CS) (h : ¬ S.1 3 = 0) : f_X7_undo S = l_X7_undo_22 319 (setI S 3 (S.1 3 - 1)) 0 := (undo_m 319 S h).1
theorem undo_o (S : CS) (h : ¬ S.1 3 = 0) (o : ol_X7_undo_22 319 (setI S 3 (S.1 3 - 1)) 0) : o_X7_undo S := (undo_m 319 S h).2 o
theorem rest_m (m : Nat) (S : CS) (h : ¬ S.1 5 = 0) : ((if S.1 5 = 0 then ((-5), S) else (bind1 (f_X7_putAside S) (fun z2 => (l_X7_restore_16 m z2 0)))) = l_X7_restore_16 m (f_X7_putAside S) 0) ∧ (ol_X7_restore_16 m (f_X7_putAside S) 0 → ((S.1 5 = 0 → True) ∧ (¬ (S.1 5 = 0) → (bind1 (f_X7_putAside S) (fun z2 => (ol_X7_restore_16 m z2 0)))))) := ⟨if_neg h, fun o => ⟨fun _ => trivial, fun _ => o⟩⟩
theorem rest_e (S : CS) (h : ¬ S.1 5 = 0) : f_X7_restore S = l_X7_restore_16 319 (f_X7_putAside S) 0 := (rest_m 319 S h).1
theorem rest_o (S : CS) (h : ¬ S.1 5 = 0) (o : ol_X7_restore_16 319 (f_X7_putAside S) 0) : o_X7_restore S := (rest_m 319 S h).2 o
end HIS
theorem sim_undo (M : CS) (N : CS) (F : CS) (P : CS) (Q : HS) (E : CS) (O : CS) (S : CS) (n : Nat) (h : REL M N F P Q E O S n) (hn : n < 512) : (o_X6_undo M N Q) ∧ (o_X7_undo S) ∧ (f_X6_undo M N Q).1 = (f_X7_undo S).1 ∧ REL M ((f_X6_undo M N Q).2.1) F P ((f_X6_undo M N Q).2.2) E O ((f_X7_undo S).2) (n + 1) := by
  have K := rel_mono h
  obtain ⟨h1, ⟨k, hk, q1, q2, ok, inj, rows⟩, h3, h4, h5⟩ := rel_mono h
  obtain ⟨⟨sz, p⟩, T⟩ := Q
  have q1 : sz = nI k := q1
  subst q1
  have rows' : ∀ i, i < k → OKS (T (p i)) (rowH (S.2 2) i) (n + 1) := rows
  unfold f_X6_undo o_X6_undo
  cases k with
  | zero =>
    have e1 : f_X0_takeLatest ((nI 0, p), T) N = (false, ((nI 0, p), T), N) := if_pos (show nI 0 - 1 < 0 by decide)
    have e2 : S.1 3 = 0 := q2
    have e3 : f_X7_undo S = (-5, S) := if_pos e2
    rw [e1, e3]
    exact ⟨⟨ok, ⟨fun _ => trivial, fun _ => trivial⟩⟩, ⟨fun _ => trivial, fun z => absurd e2 z⟩, rfl, K⟩
  | succ k =>
    have e1 : f_X0_takeLatest ((nI (k + 1), p), T) N = (true, ((nI k, p), T), f_X5_copyFrom N (T (p k))) := by
      unfold f_X0_takeLatest
      show (if nI (k + 1) - 1 < 0 then _ else if nI (k + 1) - 1 < 4 then (true, ((nI (k + 1) - 1, p), T), f_X5_copyFrom N (T (p (nI (k + 1) - 1).toNatClampNeg))) else _) = _
      rw [nI_pred, if_neg (nI_pos (by omega)), if_pos (show nI k < 4 from nI_lt (show k < 4 by omega) (by decide)), nI_clamp (by omega)]
    have e2 : ¬ S.1 3 = 0 := by rw [q2]; exact nI_ne0 (by omega) (by omega)
    have e3 : (setI S 3 (S.1 3 - 1)).1 3 = nI k := by rw [setI_s, q2, nI_pred]
    obtain ⟨o, a1, a2, a3, a4, -⟩ := u22 (k := k) (by omega) 319 0 (setI S 3 (S.1 3 - 1)) (by decide) (by decide) e3
    have uo := undo_o S e2 o
    rw [e1, undo_e S e2]
    clear o
    generalize l_X7_undo_22 319 (setI S 3 (S.1 3 - 1)) 0 = Y at *
    obtain ⟨y, R⟩ := Y
    have a1 : y = nI k := a1
    have i1 : ∀ j, j ≠ 3 → R.1 j = S.1 j := fun j hj => (congrFun a2 j).trans (setI_n S _ hj)
    have i2 : ∀ j, j ≠ 0 → R.2 j = S.2 j := a3
    have i3 : R.1 3 = nI k := (congrFun a2 3).trans e3
    have i4 : ∀ j, j < 318 → R.2 0 j = S.2 2 (318 * k + j) := fun j hj => a4 j (Nat.zero_le _) hj
    refine ⟨⟨ok, fun _ => trivial, fun _ => trivial⟩, uo, a1.symm, ?_, ?_, ?_, ?_, ?_⟩
    · exact ((rows' k (by omega)).copy N).congr i4
    · refine ⟨k, by omega, rfl, i3, ok, inj, fun i hi => ?_⟩
      show OKS (T (p i)) (rowH (R.2 2) i) (n + 1)
      rw [i2 2 (by decide)]
      exact rows' i (by omega)
    · unfold RELP at *
      rw [i1 5 (by decide), i2 4 (by decide)]
      exact h3
    · unfold RELS at *
      rw [i1 8 (by decide), i1 9 (by decide)]
      exact h4
    · unfold RELT at *
      rw [i1 7 (by decide), i2 6 (by decide)]
      exact h5
theorem sim_keep (M : CS) (N : CS) (F : CS) (P : CS) (Q : HS) (E : CS) (O : CS) (S : CS) (n : Nat) (h : REL M N F P Q E O S n) (hn : n < 512) : True ∧ (o_X7_keep S) ∧ (f_X6_keep M N P).1 = (f_X7_keep S).1 ∧ REL ((f_X6_keep M N P).2.1) N F ((f_X6_keep M N P).2.2) Q E O ((f_X7_keep S).2) (n + 1) := by
  obtain ⟨h1, h2, h3, h4, h5⟩ := rel_mono h
  obtain ⟨R, r1, r2, r3, -, r5, r6⟩ := k2 319 0 S (by decide) (by decide)
  have z0 : R.2 0 = S.2 0 := r2 0 (by decide)
  have zz : (setI R 5 1).2 0 = S.2 0 := z0
  have RR : RS N ((setI R 5 1).2 0) := by rw [zz]; exact h1.2.2.1
  unfold o_X7_keep f_X6_keep f_X7_keep
  rw [r5]
  unfold k_X7_keep_27
  simp only [bind1]
  refine ⟨trivial, r6 ⟨vers0.1, trivial⟩, many_n RR, ?_, ?_, Or.inr ⟨?_, ?_, ?_⟩, ?_, ?_⟩
  · rw [zz]; exact h1
  · refine h2.cg ?_ ?_
    · rw [setI_n _ _ (by decide), r1]
    · exact r2 2 (by decide)
  · rw [setI_s]; decide
  · rw [setI_s]; decide
  · exact (h1.copy P).congr (fun j hj => r3 j (Nat.zero_le _) hj)
  · unfold RELS at *
    rw [setI_n _ _ (by decide), setI_n _ _ (by decide), setI_n _ _ (by decide), setI_n _ _ (by decide), setI_n _ _ (by decide), r1]
    exact h4
  · unfold RELT at *
    rw [setI_n _ _ (by decide), r1, setI_2, r2 6 (by decide)]
    exact h5
theorem sim_restore (M : CS) (N : CS) (F : CS) (P : CS) (Q : HS) (E : CS) (O : CS) (S : CS) (n : Nat) (h : REL M N F P Q E O S n) (hn : n < 512) : (o_X6_restore M N F P Q) ∧ (o_X7_restore S) ∧ (f_X6_restore M N F P Q).1 = (f_X7_restore S).1 ∧ REL M ((f_X6_restore M N F P Q).2.1) ((f_X6_restore M N F P Q).2.2.1) P ((f_X6_restore M N F P Q).2.2.2) E O ((f_X7_restore S).2) (n + 1) := by
  rcases h.2.2.1 with ⟨p, q⟩ | ⟨p, q, r⟩
  · have e1 : f_X6_restore M N F P Q = (-5, N, F, Q) := if_pos p
    have e2 : f_X7_restore S = (-5, S) := if_pos q
    rw [e1, e2]
    exact ⟨⟨fun _ => trivial, fun z => absurd p z⟩, ⟨fun _ => trivial, fun z => absurd q z⟩, rfl, rel_mono h⟩
  · obtain ⟨f1, f2, f3⟩ := aside_n S
    obtain ⟨R, r1, r2, r3, -, r5, r6⟩ := r16 319 0 (f_X7_putAside S) (by decide) (by decide)
    have cg : chg (f_X7_putAside S) R := ⟨fun j _ _ => congrFun r1 j, fun j a _ => r2 j a⟩
    have hN : OKS (f_X5_copyFrom N P) (R.2 0) (n + 1) := ((r.mono (Nat.le_succ n)).copy N).congr (fun j hj => by
      rw [r3 j (Nat.zero_le _) hj, f2 4 (by decide)])
    obtain ⟨o, a1, a2, a3, a4⟩ := act_fin h cg hN (f_X7_versions R 0) E
    have ev : f_X5_howMany (f_X5_copyFrom N P) = f_X7_versions R 0 := many_n hN.2.2.1
    have e1 : f_X6_restore M N F P Q = ((f_X6_endAct M (f_X5_copyFrom F N) Q (f_X7_versions R 0)).1, f_X5_copyFrom N P, f_X5_copyFrom F N, (f_X6_endAct M (f_X5_copyFrom F N) Q (f_X7_versions R 0)).2) := by
      rw [← ev]
      exact if_neg p
    have e2 : f_X7_restore S = f_X7_act R (f_X7_versions R 0) := (rest_e S q).trans r5
    have o1 : o_X7_restore S := rest_o S q (r6 ⟨vers0.1, o, trivial⟩)
    have o2 : o_X6_restore M N F P Q := ⟨fun z => absurd z p, fun _ => by
      have a2 := a2
      rw [← ev] at a2
      exact ⟨a2, trivial⟩⟩
    rw [e1, e2]
    exact ⟨o2, o1, a3.trans a1.symm, a4⟩
