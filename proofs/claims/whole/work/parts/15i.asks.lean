/-! PURE PART. the calls that only read -/
section ASK
variable {N : CS} {S : CS} {n : Nat}
theorem ver_c (h : OKS N (S.2 0) n) (a : Int32) : (f_X5_has N a = false ∧ o_X7_isVersion S a ∧ f_X7_isVersion S a = false) ∨ ∃ v, rP (S.2 0) v ∧ a = nI v ∧ f_X5_has N a = true ∧ o_X7_isVersion S a ∧ f_X7_isVersion S a = true := by
  have R := h.2.2.1
  rcases pk_ix a (n := 24) (by decide) with q | q | ⟨v, hv, rfl⟩
  · exact Or.inl ⟨has_x (Or.inl q), ver_x (Or.inl q)⟩
  · exact Or.inl ⟨has_x (Or.inr q), ver_x (Or.inr q)⟩
  · obtain ⟨o, e⟩ := ver_n (S := S) hv
    by_cases c : S.2 0 (13 * v) = 1
    · exact Or.inr ⟨v, ⟨hv, c⟩, rfl, has_P R ⟨hv, c⟩, o, by rw [e]; exact decide_eq_true c⟩
    · refine Or.inl ⟨?_, o, by rw [e]; exact decide_eq_false c⟩
      rw [has_n R hv]
      unfold pB
      simp [c]
theorem cell_c (a : Int32) : (f_X6_isCell a = false ∧ f_X7_in a 0 7 = false) ∨ ∃ c, c < 8 ∧ a = nI c ∧ f_X6_isCell a = true ∧ f_X7_in a 0 7 = true := by
  unfold f_X6_isCell
  rw [in_spec]
  rcases pk_ix a (n := 8) (by decide) with q | q | ⟨c, hc, rfl⟩
  · rw [if_pos q]; exact Or.inl ⟨rfl, by simp [q]⟩
  · have q1 : ¬ a < 8 := by
      rw [Int32.lt_iff_toInt_lt]
      rw [Int32.le_iff_toInt_le, nI_toInt (by decide)] at q
      have : (8 : Int32).toInt = 8 := by decide
      omega
    have q2 : (7 : Int32) < a := by
      rw [Int32.lt_iff_toInt_lt]
      rw [Int32.le_iff_toInt_le, nI_toInt (by decide)] at q
      have : (7 : Int32).toInt = 7 := by decide
      omega
    refine Or.inl ⟨?_, by simp [q2]⟩
    split
    · rfl
    · first | rw [if_neg q1] | rfl
  · have q1 : ¬ nI c < 0 := nI_pos (by omega)
    have q2 : nI c < 8 := nI_lt hc (by decide)
    have q3 : ¬ (7 : Int32) < nI c := nI_nlt (show c ≤ 7 by omega) (by decide)
    refine Or.inr ⟨c, hc, rfl, by rw [if_neg q1, if_pos q2], by simp [q1, q3]⟩
theorem of5 (v c : Nat) : f_X7_of (nI v) (5 + nI c) = f_X7_of (nI v) (nI (5 + c)) := by
  rw [show (5 : Int32) + nI c = nI (5 + c) from nI_add 5 c]
/-- the root of its tree -/
theorem root_c (h : OKS N (S.2 0) n) {v : Nat} (hv : rP (S.2 0) v) : ∃ w, rR (S.2 0) w ∧ rT (S.2 0) w = rT (S.2 0) v ∧ o_X7_rootOf S (nI v) ∧ f_X7_rootOf S (nI v) = nI w ∧ ∀ E, SPR (S.2 0) v E → f_X2_rootReached E N = nI w := by
  obtain ⟨W, L, R, -⟩ := h
  obtain ⟨w, w1, w2⟩ := L.2.1 v hv
  obtain ⟨o, e, -⟩ := root_n W hv
  refine ⟨w, w1, w2, o, e w w1 w2 (fun w' a b => L.2.2.1 w' w a w1 (b.trans w2.symm)), fun E hE => ?_⟩
  have w24 := w1.1.1
  unfold f_X2_rootReached
  refine ntz_bt w24 (fun i hi => ?_)
  rw [bt_and, R.2.2.1 i hi]
  by_cases c : i = w
  · subst c
    rw [tB_iff.mpr w1, (hE.1 i hi).mpr ⟨w1.1, w2⟩]
    simp
  · have : (bt (E.1 0) i && tB (S.2 0) i) = false := by
      cases q : bt (E.1 0) i with
      | false => rfl
      | true =>
        cases q2 : tB (S.2 0) i with
        | false => rfl
        | true => exact absurd (L.2.2.1 i w (tB_iff.mp q2) w1 (((hE.1 i hi).mp q).2.trans w2.symm)) c
    rw [this]
    simp [c]
theorem made_n (h : OKS N (S.2 0) n) {v : Nat} (hv : v < 24) : o_X7_madeOf S (nI v) ∧ f_X5_madeOf N (nI v) = f_X7_madeOf S (nI v) := by
  obtain ⟨W, L, R, -⟩ := h
  have key : ∀ (m i c : Nat), 1 ≤ i → i ≤ 24 → i + m = 25 → ol_X7_madeOf_4 S (nI v) m (nI c) i ∧ l_X5_madeOf_4 N (nI v) m c i = l_X7_madeOf_4 S (nI v) m (nI c) i := by
    intro m
    induction m with
    | zero => intro i c h1 h2; omega
    | succ m ih =>
      intro i c h1 h2 h3
      rw [ol_X7_madeOf_4, l_X5_madeOf_4, l_X7_madeOf_4]
      have z0 : nI c + 0 = nI c := nI_add c 0
      have z1 : nI c + 1 = nI (c + 1) := nI_1 c
      by_cases q : i < 24
      · obtain ⟨a, b⟩ := ih (i + 1) c (by omega) (by omega) (by omega)
        obtain ⟨a', b'⟩ := ih (i + 1) (c + 1) (by omega) (by omega) (by omega)
        rw [if_pos q, if_pos q, has_n R q, cl0 q, cl1 q, z0, z1]
        by_cases p : S.2 0 (13 * i) = 1
        · have hp : rP (S.2 0) i := ⟨q, p⟩
          rw [pB_iff.mpr hp, if_pos rfl, if_pos p, src_s R hp (by omega), src_n W hp (by omega)]
          by_cases z : nI (rU (S.2 0) i) = nI v
          · rw [if_pos z, if_pos z]
            exact ⟨⟨fun _ => ⟨vi0 q, fun _ => ⟨vi1 q, fun _ => a', fun y => absurd z y⟩, fun y => absurd p y⟩, fun y => absurd q y⟩, b'⟩
          · rw [if_neg z, if_neg z]
            exact ⟨⟨fun _ => ⟨vi0 q, fun _ => ⟨vi1 q, fun y => absurd y z, fun _ => a⟩, fun y => absurd p y⟩, fun y => absurd q y⟩, b⟩
        · have : pB (S.2 0) i = false := by unfold pB; simp [p]
          rw [this, if_neg (by decide), if_neg p]
          exact ⟨⟨fun _ => ⟨vi0 q, fun y => absurd y p, fun _ => a⟩, fun y => absurd q y⟩, b⟩
      · rw [if_neg q, if_neg q]
        exact ⟨⟨fun y => absurd y q, fun _ => trivial⟩, rfl⟩
  exact key 24 1 0 (by decide) (by decide) (by decide)
theorem size_n (h : OKS N (S.2 0) n) {v : Nat} (hv : rP (S.2 0) v) : o_X7_size S (nI v) ∧ ∀ E, SPR (S.2 0) v E → f_J6_bitCount_0f7a4 (E.1 0) = f_X7_size S (nI v) := by
  obtain ⟨W, L, R, -⟩ := h
  have T := W.tr
  obtain ⟨o0, e0⟩ := top_n W hv
  have tlt : rT (S.2 0) v < 24 := (tp_P T hv).1.1
  have key : ∀ (p : Nat → Bool), (∀ i, i < 24 → (p i = true ↔ inT (S.2 0) v i)) → ∀ (m i : Nat), i ≤ 24 → i + m = 25 → ol_X7_size_11 S (nI v) m (nI (cntB p i)) i ∧ l_X7_size_11 S (nI v) m (nI (cntB p i)) i = nI (cntB p 24) := by
    intro p hp m
    induction m with
    | zero => intro i h1 h2; omega
    | succ m ih =>
      intro i h1 h2
      rw [ol_X7_size_11, l_X7_size_11]
      by_cases q : i < 24
      · obtain ⟨a, b⟩ := ih (i + 1) (by omega) (by omega)
        rw [cntB] at a b
        have z0 : nI (cntB p i) + 0 = nI (cntB p i + 0) := nI_add _ 0
        have z1 : nI (cntB p i) + 1 = nI (cntB p i + 1) := nI_1 _
        rw [if_pos q, cl0 q, z0, z1, e0]
        by_cases c : S.2 0 (13 * i) = 1
        · have hi : rP (S.2 0) i := ⟨q, c⟩
          obtain ⟨o1, e1⟩ := top_n W hi
          have ilt : rT (S.2 0) i < 24 := (tp_P T hi).1.1
          have y : nI (rT (S.2 0) i) = nI (rT (S.2 0) v) ↔ rT (S.2 0) i = rT (S.2 0) v := nI_eq (by omega) (by omega)
          rw [if_pos c, e1]
          by_cases d : rT (S.2 0) i = rT (S.2 0) v
          · rw [(hp i q).mpr ⟨hi, d⟩, if_pos rfl] at a b
            rw [if_pos (y.mpr d)]
            exact ⟨⟨fun _ => ⟨vi0 q, fun _ => ⟨o1, fun _ => a, fun k => absurd (y.mpr d) k⟩, fun k => absurd c k⟩, fun k => absurd q k⟩, b⟩
          · have : p i = false := by
              cases k : p i with
              | false => rfl
              | true => exact absurd ((hp i q).mp k).2 d
            rw [this, if_neg (by decide)] at a b
            rw [if_neg (fun k => d (y.mp k))]
            exact ⟨⟨fun _ => ⟨vi0 q, fun _ => ⟨o1, fun k => absurd (y.mp k) d, fun _ => a⟩, fun k => absurd c k⟩, fun k => absurd q k⟩, b⟩
        · have : p i = false := by
            cases k : p i with
            | false => rfl
            | true => exact absurd ((hp i q).mp k).1.2 c
          rw [this, if_neg (by decide)] at a b
          rw [if_neg c]
          exact ⟨⟨fun _ => ⟨vi0 q, fun k => absurd k c, fun _ => a⟩, fun k => absurd q k⟩, b⟩
      · rw [if_neg q]
        have : i = 24 := by omega
        subst this
        exact ⟨⟨fun k => absurd k q, fun _ => trivial⟩, rfl⟩
  refine ⟨⟨o0, (key (fun i => decide (i < 24) && decide (S.2 0 (13 * i) = 1) && decide (rT (S.2 0) i = rT (S.2 0) v)) (fun i hi => by unfold inT rP; simp) 25 0 (by decide) (by decide)).1⟩, fun E hE => ?_⟩
  have k := (key (bt (E.1 0)) (fun i hi => hE.1 i (by omega)) 25 0 (by decide) (by decide)).2
  rw [bitCount_bt (fun i h1 h2 => by
    cases q : bt (E.1 0) i with
    | false => rfl
    | true => exact absurd ((hE.1 i h2).mp q).1.1 (by omega))]
  exact k.symm
end ASK
theorem sim_cell (M : CS) (N : CS) (F : CS) (P : CS) (Q : HS) (E : CS) (O : CS) (S : CS) (n : Nat) (a1 : Int32) (a2 : Int32) (h : REL M N F P Q E O S n) (hn : n < 512) : True ∧ (o_X7_cell S a1 a2) ∧ (f_X6_cell M N a1 a2) = (f_X7_cell S a1 a2) ∧ REL M N F P Q E O S (n + 1) := by
  have K := h.1
  have R := K.2.2.1
  refine ⟨trivial, ?_⟩
  unfold o_X7_cell f_X6_cell f_X7_cell
  rcases ver_c K a1 with ⟨q1, q2, q3⟩ | ⟨v, hv, rfl, q1, q2, q3⟩
  · rw [q1, q3]
    exact ⟨⟨q2, fun k => (by cases k), fun _ => trivial⟩, rfl, rel_mono h⟩
  · rw [q1, q3, if_pos rfl, if_pos rfl]
    rcases cell_c a2 with ⟨p1, p2⟩ | ⟨c, hc, rfl, p1, p2⟩
    · rw [p1, p2]
      exact ⟨⟨q2, fun _ => ⟨fun k => (by cases k), fun _ => trivial⟩, fun k => absurd rfl k⟩, rfl, rel_mono h⟩
    · rw [p1, p2, if_pos rfl, if_pos rfl, num_n R hv hc, of5, cln hv.1 (by omega)]
      exact ⟨⟨q2, fun _ => ⟨fun _ => ⟨vi hv.1 (by omega), trivial⟩, fun k => absurd rfl k⟩, fun k => absurd rfl k⟩, rfl, rel_mono h⟩
theorem sim_unlike (M : CS) (N : CS) (F : CS) (P : CS) (Q : HS) (E : CS) (O : CS) (S : CS) (n : Nat) (a1 : Int32) (a2 : Int32) (h : REL M N F P Q E O S n) (hn : n < 512) : True ∧ (o_X7_unlike S a1 a2) ∧ (f_X6_unlike M N a1 a2) = (f_X7_unlike S a1 a2) ∧ REL M N F P Q E O S (n + 1) := by
  have K := h.1
  have R := K.2.2.1
  refine ⟨trivial, ?_⟩
  unfold o_X7_unlike f_X6_unlike f_X7_unlike
  rcases ver_c K a1 with ⟨q1, q2, q3⟩ | ⟨v, hv, rfl, q1, q2, q3⟩
  · rw [q1, q3]
    exact ⟨⟨q2, fun k => (by cases k), fun _ => trivial⟩, rfl, rel_mono h⟩
  · rw [q1, q3, if_pos rfl, if_pos rfl]
    rcases ver_c K a2 with ⟨p1, p2, p3⟩ | ⟨u, hu, rfl, p1, p2, p3⟩
    · rw [p1, p3]
      exact ⟨⟨q2, fun _ => ⟨p2, fun k => (by cases k), fun _ => trivial⟩, fun k => absurd rfl k⟩, rfl, rel_mono h⟩
    · obtain ⟨o, e⟩ := ucell_n (S := S) hv.1 hu.1
      rw [p1, p3, if_pos rfl, if_pos rfl, e, mask_cnt (unl_n R hv hu)]
      exact ⟨⟨q2, fun _ => ⟨p2, fun _ => ⟨o, trivial⟩, fun k => absurd rfl k⟩, fun k => absurd rfl k⟩, rfl, rel_mono h⟩
