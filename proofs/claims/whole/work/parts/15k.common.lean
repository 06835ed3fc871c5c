/-! PURE PART. common -/
theorem hz_iff {v : Nat} : hz v = true ↔ 0 < v := by unfold hz; simp
theorem tz_0 {s : Nat → Int32} (W : SH s) {v : Nat} (hv : rP s v) : tp (rU s) hz v = 0 := by
  have T := W.tz
  obtain ⟨h1, h2⟩ := tp_P T hv
  by_cases c : 0 < tp (rU s) hz v
  · have := ht_hg T h1 (hz_iff.mpr c)
    omega
  · omega
theorem ahead_n {S : CS} (W : SH (S.2 0)) {v u : Nat} (hv : rP (S.2 0) v) (hu : u < 24) : o_X7_isAhead S (nI u) (nI v) ∧ f_X7_isAhead S (nI u) (nI v) = decide (cm (rU (S.2 0)) hz v u) := by
  have T := W.tz
  have key : ∀ (n v : Nat), rP (S.2 0) v → ht (rU (S.2 0)) hz v < n → ol_X7_isAhead_2 S (nI u) n (nI v) ∧ l_X7_isAhead_2 S (nI u) n (nI v) = decide (cm (rU (S.2 0)) hz v u) := by
    intro n
    induction n with
    | zero => intro v _ h; omega
    | succ n ih =>
      intro v hv hn
      have hv24 := hv.1
      have q : nI v = nI u ↔ v = u := nI_eq (by omega) (by omega)
      have p : 0 < nI v ↔ 0 < v := nI_ltI (a := 0) (by decide) (by omega)
      rw [ol_X7_isAhead_2, l_X7_isAhead_2, cl1 hv24]
      unfold k_X7_isAhead_25
      by_cases c : v = u
      · rw [if_pos (q.mpr c), if_pos (q.mpr c)]
        refine ⟨⟨fun _ => ⟨fun _ => trivial, fun _ => trivial⟩, fun h => absurd (q.mpr c) h⟩, ?_⟩
        subst c
        exact (decide_eq_true (cm_refl v)).symm
      · rw [if_neg (fun z => c (q.mp z))]
        by_cases g : 0 < v
        · have h1 := T.2.1 v hv (hz_iff.mpr g)
          have h2 := ht_hg T hv (hz_iff.mpr g)
          obtain ⟨a, b⟩ := ih (rU (S.2 0) v) h1 (by omega)
          rw [if_pos (p.mpr g), src_n W hv g]
          refine ⟨⟨fun h => absurd (q.mp h) c, fun _ => ⟨fun _ => ⟨vi1 hv.1, a⟩, fun h => absurd (p.mpr g) h⟩⟩, ?_⟩
          rw [b]
          exact decide_eq_decide.mpr (cm_up_iff T hv (hz_iff.mpr g) c)
        · rw [if_neg (fun z => g (p.mp z)), if_neg (fun z => c (q.mp z))]
          exact ⟨⟨fun h => absurd (q.mp h) c, fun _ => ⟨fun h => absurd (p.mp h) g, fun _ => ⟨fun _ => trivial, fun _ => trivial⟩⟩⟩, (decide_eq_false (cm_no (fun z => g (hz_iff.mp z)) c)).symm⟩
  exact key 25 v hv (by have := ht_le T hv; omega)
theorem anc_n {N : CS} {s : Nat → Int32} (W : SH s) (R : RS N s) {v : Nat} (hv : rP s v) : ∀ i, i < 24 → (bt (f_X5_ancestors N (nI v)) i = true ↔ cm (rU s) hz v i) := by
  have T := W.tz
  have hl := ht_le T hv
  have key : ∀ (n j : Nat) (x : Int32), j ≤ ht (rU s) hz v → j + n = 25 → (∀ i, i < 24 → (bt x i = true ↔ (i = 0 ∨ ∃ k, k ≤ j ∧ itr (rU s) k v = i))) → ∀ i, i < 24 → (bt (l_X5_ancestors_15 N n x (nI (itr (rU s) j v)) j) i = true ↔ cm (rU s) hz v i) := by
    intro n
    induction n with
    | zero => intro j x h1 h2; omega
    | succ n ih =>
      intro j x h1 h2 hx i hi
      obtain ⟨p1, p2⟩ := it_P T j v hv h1
      have t1 := p1.1
      have q : nI (itr (rU s) j v) = 0 ↔ itr (rU s) j v = 0 := nI_eq (b := 0) (by omega) (by decide)
      rw [l_X5_ancestors_15, if_pos (show j < 24 by omega)]
      by_cases c : itr (rU s) j v = 0
      · rw [if_pos (q.mpr c)]
        have e : j = ht (rU s) hz v := by
          have : ht (rU s) hz (itr (rU s) j v) = 0 := by rw [c]; exact ht_no (by decide)
          omega
        show bt x i = true ↔ _
        rw [hx i hi]
        constructor
        · rintro (rfl | ⟨k, k1, k2⟩)
          · rw [← tz_0 W hv]
            exact cm_top T hv
          · rw [← k2]
            exact cm_it T hv (by omega)
        · intro z
          exact Or.inr ⟨_, by omega, z.2⟩
      · rw [if_neg (fun z => c (q.mp z))]
        have g : 0 < itr (rU s) j v := by omega
        have hlt : j < ht (rU s) hz v := by
          have := ht_hg T p1 (hz_iff.mpr g)
          omega
        rw [src_s R p1 g, ← itr_succ (rU s)]
        have p3 := (it_P T (j + 1) v hv (by omega)).1.1
        refine ih (j + 1) _ (by omega) (by omega) (fun i hi => ?_) i hi
        rw [bt_or, bt_of (by omega) (by omega), Bool.or_eq_true, hx i hi, decide_eq_true_iff]
        constructor
        · rintro ((h | ⟨k, k1, k2⟩) | h)
          · exact Or.inl h
          · exact Or.inr ⟨k, by omega, k2⟩
          · exact Or.inr ⟨j + 1, Nat.le_refl _, h.symm⟩
        · rintro (h | ⟨k, k1, k2⟩)
          · exact Or.inl (Or.inl h)
          · by_cases z : k = j + 1
            · rw [z] at k2
              exact Or.inr k2.symm
            · exact Or.inl (Or.inr ⟨k, by omega, k2⟩)
  have hv24 := hv.1
  exact key 25 0 _ (Nat.zero_le _) (by decide) (fun i hi => by
    rw [bt_or, bt_of (by omega) (by omega), show (0 : Int32) = nI 0 from rfl, bt_of (by decide) (by omega), Bool.or_eq_true, decide_eq_true_iff, decide_eq_true_iff]
    constructor
    · rintro (h | h)
      · exact Or.inr ⟨0, Nat.le_refl _, h.symm⟩
      · exact Or.inl h
    · rintro (h | ⟨k, k1, k2⟩)
      · exact Or.inr h
      · have : k = 0 := by omega
        subst this
        exact Or.inl k2.symm)
theorem sim_common (M : CS) (N : CS) (F : CS) (P : CS) (Q : HS) (E : CS) (O : CS) (S : CS) (n : Nat) (a1 : Int32) (a2 : Int32) (h : REL M N F P Q E O S n) (hn : n < 512) : True ∧ (o_X7_common S a1 a2) ∧ (f_X6_common M N a1 a2) = (f_X7_common S a1 a2) ∧ REL M N F P Q E O S (n + 1) := by
  have K := h.1
  have R := K.2.2.1
  have W := K.1
  have T := W.tz
  refine ⟨trivial, ?_⟩
  unfold o_X7_common f_X6_common f_X7_common
  rcases ver_c K a1 with ⟨q1, q2, q3⟩ | ⟨u, hu, rfl, q1, q2, q3⟩
  · rw [q1, q3]
    exact ⟨⟨q2, fun k => (by cases k), fun _ => trivial⟩, rfl, rel_mono h⟩
  · rw [q1, q3, if_pos rfl, if_pos rfl]
    rcases ver_c K a2 with ⟨p1, p2, p3⟩ | ⟨v, hv, rfl, p1, p2, p3⟩
    · rw [p1, p3]
      exact ⟨⟨q2, fun _ => ⟨p2, fun k => (by cases k), fun _ => trivial⟩, fun k => absurd rfl k⟩, rfl, rel_mono h⟩
    · rw [p1, p3, if_pos rfl, if_pos rfl]
      have e : tp (rU (S.2 0)) hz u = tp (rU (S.2 0)) hz v := by rw [tz_0 W hu, tz_0 W hv]
      obtain ⟨a1, a2, a3⟩ := AA_spec T hu hv e
      have hl := ht_le T hu
      have key : ∀ (m j : Nat), j ≤ AA (rU (S.2 0)) hz u v → 24 < j + m → ol_X7_common_20 S (nI v) m (nI (itr (rU (S.2 0)) j u)) ∧ l_X7_common_20 S (nI v) m (nI (itr (rU (S.2 0)) j u)) = nI (itr (rU (S.2 0)) (AA (rU (S.2 0)) hz u v) u) ∧ l_X6_common_39 N (nI v) m (nI (itr (rU (S.2 0)) j u)) j = nI (itr (rU (S.2 0)) (AA (rU (S.2 0)) hz u v) u) := by
        intro m
        induction m with
        | zero => intro j h1 h2; omega
        | succ m ih =>
          intro j h1 h2
          obtain ⟨b1, b2⟩ := it_P T j u hu (by omega)
          have t1 := b1.1
          obtain ⟨oa, ea⟩ := ahead_n W hv t1
          rw [ol_X7_common_20, l_X7_common_20, l_X6_common_39, ea, isIn_nI t1, if_pos (show j < 24 by omega), cl1 t1]
          by_cases c : cm (rU (S.2 0)) hz v (itr (rU (S.2 0)) j u)
          · have ej : j = AA (rU (S.2 0)) hz u v := by
              rcases Nat.lt_or_ge j (AA (rU (S.2 0)) hz u v) with z | z
              · exact absurd c (a3 j z)
              · omega
            rw [if_pos (decide_eq_true c), if_pos ((anc_n W R hv _ t1).mpr c)]
            refine ⟨⟨oa, fun _ => trivial, fun k => absurd (decide_eq_true c) k⟩, ?_, ?_⟩
            · show nI (itr (rU (S.2 0)) j u) = _
              rw [← ej]
            · show nI (itr (rU (S.2 0)) j u) = _
              rw [← ej]
          · have hj : j < AA (rU (S.2 0)) hz u v := by
              rcases Nat.lt_or_ge j (AA (rU (S.2 0)) hz u v) with z | z
              · exact z
              · have : j = AA (rU (S.2 0)) hz u v := by omega
                rw [this] at c
                exact absurd a2 c
            have g := hg_of T (v := itr (rU (S.2 0)) j u) (by omega)
            obtain ⟨d1, d2, d3⟩ := ih (j + 1) (by omega) (by omega)
            rw [if_neg (fun k => c (of_decide_eq_true k)), if_neg (fun k => c ((anc_n W R hv _ t1).mp k)), src_n W b1 (hz_iff.mp g), src_s R b1 (hz_iff.mp g), ← itr_succ (rU (S.2 0))]
            exact ⟨⟨oa, fun k => absurd (of_decide_eq_true k) c, fun _ => ⟨vi1 t1, d1⟩⟩, d2, d3⟩
      obtain ⟨k1, k2, k3⟩ := key 25 0 (Nat.zero_le _) (by decide)
      have k1 : ol_X7_common_20 S (nI v) 25 (nI u) := k1
      have k2 : l_X7_common_20 S (nI v) 25 (nI u) = _ := k2
      have k3 : l_X6_common_39 N (nI v) 25 (nI u) 0 = _ := k3
      rw [k2, k3]
      exact ⟨⟨q2, fun _ => ⟨p2, fun _ => k1, fun k => absurd rfl k⟩, fun k => absurd rfl k⟩, rfl, rel_mono h⟩
