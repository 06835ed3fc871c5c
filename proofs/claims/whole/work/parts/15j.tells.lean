/-! PURE PART. what is told of a version and of its way -/
section TELL
variable {N : CS} {S : CS} {n : Nat}
theorem next_n {s : Nat → Int32} (W : SH s) {x v k : Nat} (hx : rP s x) (hv : rP s v) (e : rT s x = rT s v) (hk : k < yD s x v) : yP s x v k ≠ v ∧ yP s (yP s x v k) v 1 = yP s x v (k + 1) := by
  have T := W.tr
  obtain ⟨h1, h2⟩ := PP_P T hx hv e (Nat.le_of_lt hk)
  have ne : yP s x v k ≠ v := fun z => by
    have h3 := (wC_step W hx hv e hk).2
    rw [z, show yD s v v = 0 from (way_self (wt := rW s) T hv).1] at h3
    omega
  refine ⟨ne, ?_⟩
  rcases PP_step T hx hv e hk with ⟨c, -, h⟩ | ⟨c, -, g, h, c2⟩
  · rw [next_up W h1 hv h2 c]
    exact h.symm
  · have := next_down W hv g c2
    rw [h] at this
    exact this
theorem toward_n {s : Nat → Int32} (W : SH s) {x v k : Nat} (hx : rP s x) (hv : rP s v) (e : rT s x = rT s v) (hk : k ≤ yD s x v) {E : CS} (hE : SPR s v E) : f_X2_towardsStart E (nI x) (nI k) = nI (yP s x v k) := by
  have T := W.tr
  have dl : yD s x v ≤ 23 := DD_le T hx hv e
  have key : ∀ (m i : Nat), i ≤ k → 24 < i + m → l_X2_towardsStart_5 E (nI k) m (nI (yP s x v i)) i = nI (yP s x v k) := by
    intro m
    induction m with
    | zero => intro i h1 h2; omega
    | succ m ih =>
      intro i h1 h2
      have q : nI i < nI k ↔ i < k := nI_ltI (by omega) (by omega)
      rw [l_X2_towardsStart_5]
      by_cases c : i < k
      · obtain ⟨p1, p2⟩ := PP_P T hx hv e (k := i) (show i ≤ yD s x v by omega)
        obtain ⟨n1, n2⟩ := next_n W hx hv e (k := i) (show i < yD s x v by omega)
        have e3 : f_X3_at 24 (E.2 3) (nI (yP s x v i)) = nI (yP s x v (i + 1)) := by
          rw [at_n _ p1.1 (by decide), (hE.2.2 _ ⟨p1, p2⟩).2.2 n1, n2]
        rw [if_pos (q.mpr c), if_pos (show i < 24 by omega), e3]
        exact ih (i + 1) (by omega) (by omega)
      · rw [if_neg (fun z => c (q.mp z))]
        have : i = k := by omega
        subst this
        rfl
  have h0 := key 25 0 (Nat.zero_le _) (by decide)
  rw [show yP s x v 0 = x from PP_zero x v] at h0
  exact h0
theorem steps_n {s : Nat → Int32} {v u : Nat} {E : CS} (hE : SPR s v E) (hu : inT s v u) : f_X2_stepsTo E (nI u) = nI (yD s u v) ∧ f_X2_cellsTo E (nI u) = nI (yC s u v) := by
  unfold f_X2_stepsTo f_X2_cellsTo
  rw [at_n _ hu.1.1 (by decide), at_n _ hu.1.1 (by decide)]
  exact ⟨(hE.2.2 u hu).1, (hE.2.2 u hu).2.1⟩
end TELL
theorem sim_way (M : CS) (N : CS) (F : CS) (P : CS) (Q : HS) (E : CS) (O : CS) (S : CS) (n : Nat) (a1 : Int32) (a2 : Int32) (h : REL M N F P Q E O S n) (hn : n < 512) : True ∧ (o_X7_way S a1 a2) ∧ (f_X6_way M N E a1 a2).1 = (f_X7_way S a1 a2).1 ∧ REL M N F P Q ((f_X6_way M N E a1 a2).2) O ((f_X7_way S a1 a2).2) (n + 1) := by
  have K := h.1
  have R := K.2.2.1
  have W := K.1
  refine ⟨trivial, ?_⟩
  unfold o_X7_way f_X6_way f_X7_way
  rcases ver_c K a1 with ⟨q1, q2, q3⟩ | ⟨v, hv, rfl, q1, q2, q3⟩
  · rw [q1, q3]
    exact ⟨⟨q2, fun k => (by cases k), fun _ => trivial⟩, rfl, rel_mono h⟩
  · rw [q1, q3, if_pos rfl, if_pos rfl]
    by_cases c : a2 < 0
    · rw [if_pos c, if_pos c]
      exact ⟨⟨q2, fun _ => ⟨fun _ => trivial, fun k => absurd c k⟩, fun k => absurd rfl k⟩, rfl, rel_mono h⟩
    · obtain ⟨k, hk, rfl⟩ := nI_of c
      rw [if_neg c, if_neg c]
      obtain ⟨w, w1, w2, o1, e1, hr⟩ := root_c K hv
      have hE := spread_n W R hv E
      have dl : yD (S.2 0) w v ≤ 23 := DD_le W.tr w1.1 hv w2
      simp only [bind1]
      generalize f_X2_spread E N (nI v) = E' at hE
      rw [hr E' hE, (steps_n hE ⟨w1.1, w2⟩).1, e1]
      obtain ⟨o2, s1, l1, -, l3⟩ := lay_n W w1.1 hv w2
      generalize f_X7_layWay S (nI w) (nI v) = Z at *
      rw [l1]
      have q : nI (yD (S.2 0) w v) < nI k ↔ yD (S.2 0) w v < k := nI_ltI (by omega) hk
      by_cases d : yD (S.2 0) w v < k
      · rw [if_pos (q.mpr d), if_pos (q.mpr d)]
        exact ⟨⟨q2, fun _ => ⟨fun z => absurd z c, fun _ => ⟨o1, o2, fun _ => trivial, fun z => absurd (q.mpr d) z⟩⟩, fun k => absurd trivial k⟩, rfl, rel_sw (rel_mono h) s1⟩
      · rw [if_neg (fun z => d (q.mp z)), if_neg (fun z => d (q.mp z)), toward_n W w1.1 hv w2 (by omega) hE, nI_clamp hk, l3 k (by omega)]
        exact ⟨⟨q2, fun _ => ⟨fun z => absurd z c, fun _ => ⟨o1, o2, fun z => absurd (q.mp z) d, fun _ => ⟨vp_in_nI (by omega) (by decide), trivial⟩⟩⟩, fun k => absurd trivial k⟩, rfl, rel_sw (rel_mono h) s1⟩
theorem sim_version (M : CS) (N : CS) (F : CS) (P : CS) (Q : HS) (E : CS) (O : CS) (S : CS) (n : Nat) (a1 : Int32) (a2 : Int32) (h : REL M N F P Q E O S n) (hn : n < 512) : True ∧ (o_X7_version S a1 a2) ∧ (f_X6_version M N E a1 a2).1 = (f_X7_version S a1 a2).1 ∧ REL M N F P Q ((f_X6_version M N E a1 a2).2) O ((f_X7_version S a1 a2).2) (n + 1) := by
  have K := h.1
  have R := K.2.2.1
  have W := K.1
  refine ⟨trivial, ?_⟩
  unfold o_X7_version f_X6_version f_X7_version
  rcases ver_c K a1 with ⟨q1, q2, q3⟩ | ⟨v, hv, rfl, q1, q2, q3⟩
  · rw [q1, q3]
    exact ⟨⟨q2, fun k => (by cases k), fun _ => trivial⟩, rfl, rel_mono h⟩
  · rw [q1, q3, if_pos rfl, if_pos rfl]
    obtain ⟨w, w1, w2, o1, e1, hr⟩ := root_c K hv
    have hE := spread_n W R hv E
    have tell : f_X6_tellOfTree M N E (nI v) a2 = (if a2 = 3 then (nI w, f_X2_spread E N (nI v)) else if a2 = 4 then (nI (yD (S.2 0) w v), f_X2_spread E N (nI v)) else if a2 = 5 then (nI (yC (S.2 0) w v), f_X2_spread E N (nI v)) else if a2 = 8 then (f_X7_size S (nI v), f_X2_spread E N (nI v)) else if a2 = 9 then (1 + nI (yC (S.2 0) w v), f_X2_spread E N (nI v)) else (-2, f_X2_spread E N (nI v))) := by
      unfold f_X6_tellOfTree
      simp only [bind1]
      rw [hr _ hE, (steps_n hE ⟨w1.1, w2⟩).1, (steps_n hE ⟨w1.1, w2⟩).2, (size_n K hv).2 _ hE]
      by_cases c3 : a2 = 3
      · rw [if_pos c3, if_pos c3]
      by_cases c4 : a2 = 4
      · rw [if_neg c3, if_pos c4, if_neg c3, if_pos c4]
      by_cases c5 : a2 = 5
      · rw [if_neg c3, if_neg c4, if_pos c5, if_neg c3, if_neg c4, if_pos c5]
      rw [if_neg c3, if_neg c4, if_neg c5, if_neg c3, if_neg c4, if_neg c5]
      by_cases c8 : a2 = 8
      · subst c8
        rfl
      rw [if_neg c8]
      by_cases c9 : a2 = 9
      · subst c9
        rfl
      rw [if_neg c9]
      split
      · rfl
      · split <;> rfl
    rw [tell, e1]
    obtain ⟨o2, s1, l1, l2, l3⟩ := lay_n W w1.1 hv w2
    simp only [bind1]
    generalize f_X2_spread E N (nI v) = E' at hE
    generalize f_X7_layWay S (nI w) (nI v) = Z at *
    have z0 : Z.2 0 = S.2 0 := s1.2 0 (by decide)
    have KZ : OKS N (Z.2 0) n := by rw [z0]; exact K
    have hvZ : rP (Z.2 0) v := by rw [z0]; exact hv
    obtain ⟨wz, wz1, wz2, oz1, ez1, -⟩ := root_c KZ hvZ
    have ewz : wz = w := K.2.1.2.2.1 wz w (by rw [← z0]; exact wz1) w1 (by rw [z0] at wz2; exact wz2.trans w2.symm)
    obtain ⟨om, em⟩ := made_n KZ hv.1
    obtain ⟨oh, eh⟩ := hangs_n (S := Z) hv.1
    have os := (size_n KZ hvZ).1
    have es : f_X7_size Z (nI v) = f_X7_size S (nI v) := by
      have a := (size_n KZ hvZ).2 E' (by rw [z0]; exact hE)
      have b := (size_n K hv).2 E' hE
      exact a.symm.trans b
    have a0 : nI v = 0 ↔ v = 0 := nI_eq (b := 0) (by have := hv.1; omega) (by decide)
    have hsrc : 0 < v → rP (S.2 0) (rU (S.2 0) v) ∧ S.2 0 (13 * v + 1) = nI (rU (S.2 0) v) := fun p => ⟨(W.2.2.1 v p hv).2, (W.2.2.1 v p hv).1⟩
    have hcell : ¬ v = 0 → o_X7_cellsUnlike Z (nI v) (Z.2 0 (f_X7_of (nI v) 1).toNatClampNeg) ∧ f_X5_differenceOf N (nI v) = f_X7_cellsUnlike Z (nI v) (Z.2 0 (f_X7_of (nI v) 1).toNatClampNeg) := by
      intro p
      obtain ⟨p1, p2⟩ := hsrc (by omega)
      obtain ⟨oc, ec⟩ := cellm_n (S := Z) hv.1 p1.1
      rw [cl1 hv.1, z0, p2]
      refine ⟨oc, bt_ext (fun j hj => ?_)⟩
      rw [dif_n R hv (by omega) j hj, ec j hj, z0]
    refine ⟨⟨q2, fun _ => ⟨o1, o2, vi1 hv.1, fun _ => trivial, fun _ => ⟨fun _ => ⟨oh, fun _ => trivial, fun _ => trivial⟩, fun _ => ⟨fun _ => ⟨fun _ => trivial, fun p => ⟨(hcell (fun k => p (a0.mpr k))).1, trivial⟩⟩, fun _ => ⟨fun _ => ⟨oz1, trivial⟩, fun _ => ⟨fun _ => trivial, fun _ => ⟨fun _ => trivial, fun _ => ⟨fun _ => ⟨vi4 hv.1, trivial⟩, fun _ => ⟨fun _ => ⟨om, trivial⟩, fun _ => ⟨fun _ => ⟨os, trivial⟩, fun _ => ⟨fun _ => trivial, fun _ => trivial⟩⟩⟩⟩⟩⟩⟩⟩⟩⟩, fun k => absurd trivial k⟩, ?_⟩
    rw [eh, ez1, ewz, es, ← em, l1, l2, cl1 hv.1, cl4 hv.1, kept_n R hv, asked_n R hv]
    rw [cl1 hv.1] at hcell
    rw [z0] at hcell ⊢
    have fin : REL M N F P Q E O Z (n + 1) := rel_sw (rel_mono h) s1
    have finE : REL M N F P Q E' O Z (n + 1) := rel_sw (rel_mono h) s1
    by_cases c0 : a2 = 0
    · rw [if_pos c0, if_pos c0]
      by_cases d : v = 0
      · rw [if_pos (a0.mpr d)]
        refine ⟨?_, fin⟩
        rw [d]
        exact K.2.1.2.2.2.2.symm
      · rw [if_neg (fun k => d (a0.mp k)), src_s R hv (by omega), (hsrc (by omega)).2]
        exact ⟨rfl, fin⟩
    rw [if_neg c0, if_neg c0]
    by_cases c1 : a2 = 1
    · rw [if_pos c1, if_pos c1]
      by_cases d : rH (S.2 0) v = true
      · rw [if_pos d, if_pos d]
        exact ⟨rfl, fin⟩
      · rw [if_neg d, if_neg d]
        exact ⟨rfl, fin⟩
    rw [if_neg c1, if_neg c1]
    by_cases c2 : a2 = 2
    · rw [if_pos c2, if_pos c2]
      by_cases d : v = 0
      · rw [if_pos (a0.mpr d)]
        refine ⟨?_, fin⟩
        rw [d]
        unfold f_X5_differenceOf
        rw [at_n _ (by decide) (by decide)]
        exact R.2.2.2.1.2
      · rw [if_neg (fun k => d (a0.mp k)), (hcell d).2]
        exact ⟨rfl, fin⟩
    rw [if_neg c2, if_neg c2]
    by_cases c3 : a2 = 3
    · subst c3
      exact ⟨rfl, finE⟩
    by_cases c4 : a2 = 4
    · subst c4
      exact ⟨rfl, finE⟩
    by_cases c5 : a2 = 5
    · subst c5
      exact ⟨rfl, finE⟩
    rw [if_neg c3, if_neg c4, if_neg c5, if_neg c3, if_neg c4, if_neg c5]
    by_cases c6 : a2 = 6
    · subst c6
      exact ⟨rfl, fin⟩
    rw [if_neg c6, if_neg c6]
    by_cases c7 : a2 = 7
    · subst c7
      exact ⟨rfl, fin⟩
    rw [if_neg c7, if_neg c7, if_neg c3, if_neg c4, if_neg c5]
    by_cases c8 : a2 = 8
    · rw [if_pos c8, if_pos c8]
      exact ⟨rfl, finE⟩
    rw [if_neg c8, if_neg c8]
    by_cases c9 : a2 = 9
    · rw [if_pos c9, if_pos c9]
      exact ⟨rfl, finE⟩
    rw [if_neg c9, if_neg c9]
    exact ⟨rfl, finE⟩
