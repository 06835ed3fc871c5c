/-! PURE PART. isWaySo -/
section ISWAY
variable {N : CS} {s : Nat → Int32} {n : Nat}
set_option maxHeartbeats 16000000 in
theorem isWay_loop (h : OKS N s n) {v w : Nat} (hv : rP s v) (a : RO s v w) (M : CS) {z1 : Int32 × CS} (hz : z1.1 = nI (yD s w v)) : ∀ (m k : Nat), 1 ≤ k → k ≤ yD s w v + 1 → yD s w v + 1 < k + m → ∀ (E : CS) (c : Nat), c + yC s (yP s w v (k - 1)) v = yC s w v → ol_L_isWaySo_60 M N (nI v) z1 m E (nI (yP s w v (k - 1))) (nI c) 1 k ∧ (l_L_isWaySo_60 M N (nI v) z1 m E (nI (yP s w v (k - 1))) (nI c) 1 k).1 = true := by
  have W := h.1
  have T := W.tr
  have dl : yD s w v ≤ 23 := DD_le T a.1.1 hv a.2
  have n10 : ¬ (1 : Int32) = 0 := by decide
  have n01 : ¬ (0 : Int32) = 1 := by decide
  have v5 := ver5 h hv a M
  intro m
  induction m with
  | zero => intro k h1 h2 h3; omega
  | succ m ih =>
    intro k h1 h2 h3 E c hc
    rw [ol_L_isWaySo_60, l_L_isWaySo_60]
    have q : nI (yD s w v) < nI k ↔ yD s w v < k := nI_ltI (by omega) (by omega)
    by_cases d : yD s w v < k
    · have d' := q.mpr d
      have ek : k - 1 = yD s w v := by omega
      have ec : c = yC s w v := by
        rw [ek, show yP s w v (yD s w v) = v from PP_end T a.1.1 hv a.2, show yC s v v = 0 from (way_self T hv).2] at hc
        omega
      subst ec
      simp only [hz, d', n10, v5, bind1, k_L_isWaySo_175, ok_L_isWaySo_175, ↓reduceIte, if_true, if_false, true_and, not_true_eq_false, not_false_eq_true, Bool.false_eq_true, true_implies, false_implies, and_true, implies_true, and_self]
    · have d' : ¬ nI (yD s w v) < nI k := fun z => d (q.mp z)
      have hk : k - 1 < yD s w v := by omega
      obtain ⟨p1, p2⟩ := PP_P T a.1.1 hv a.2 (k := k - 1) (show k - 1 ≤ yD s w v by omega)
      obtain ⟨r1, r2⟩ := PP_P T a.1.1 hv a.2 (k := k) (show k ≤ yD s w v by omega)
      have st := PP_step T a.1.1 hv a.2 hk
      obtain ⟨wc, -⟩ := wC_step W a.1.1 hv a.2 hk
      rw [show k - 1 + 1 = k by omega] at st wc
      have wy : ∀ E, (f_X6_way M N E (nI v) (nI k)).1 = nI (yP s w v k) := fun E => by rw [way_c h hv a (by omega), if_neg d]
      have hc2 : c + uc s (yP s w v (k - 1)) (yP s w v k) + yC s (yP s w v (k + 1 - 1)) v = yC s w v := by
        rw [show k + 1 - 1 = k by omega]
        omega
      have go := ih (k + 1) (by omega) (by omega) (by omega)
      have go := fun E => go E _ hc2
      rw [show k + 1 - 1 = k by omega] at go
      have p1 : rP s (yP s w v (k - 1)) := p1
      have r1 : rP s (yP s w v k) := r1
      have un := unl_c h p1 r1 M
      have st : (rH s (yP s w v (k - 1)) = true ∧ yP s w v k = rU s (yP s w v (k - 1))) ∨ (rH s (yP s w v k) = true ∧ rU s (yP s w v k) = yP s w v (k - 1)) := by
        rcases st with ⟨x1, x2, x3⟩ | ⟨x1, x2, x3, x4, x5⟩
        · exact Or.inl ⟨(way_up (wt := rW s) T p1 hv p2 x1).1, x3⟩
        · exact Or.inr ⟨x3, x4⟩
      clear wc hc hc2 p2 r2
      generalize yP s w v (k - 1) = at0 at *
      generalize yP s w v k = nx at *
      have a0 := ver0g h p1 M
      have x0 := ver0g h r1 M
      have a1 := ver1 h p1 M
      have x1 := ver1 h r1 M
      have add : nI c + nI (uc s at0 nx) = nI (c + uc s at0 nx) := nI_add _ _
      rcases st with ⟨g, e⟩ | ⟨g, e⟩
      · have sa : srcI s at0 = nI nx := by
          unfold srcI
          rw [if_neg (by have := (rH_pos g).1; omega), e]
        by_cases y1 : srcI s nx = nI at0
        · by_cases y2 : rH s nx = true
          · simp only [hz, d', wy, a0, x0, a1, x1, g, sa, y1, y2, n10, n01, un, add, bind1, j_L_isWaySo_102, oj_L_isWaySo_102, j_L_isWaySo_130, oj_L_isWaySo_130, j_L_isWaySo_164, oj_L_isWaySo_164, ↓reduceIte, if_true, if_false, true_and, not_true_eq_false, not_false_eq_true, Bool.false_eq_true, true_implies, false_implies, and_true]
            exact go _
          · simp only [hz, d', wy, a0, x0, a1, x1, g, sa, y1, y2, n10, n01, un, add, bind1, j_L_isWaySo_102, oj_L_isWaySo_102, j_L_isWaySo_130, oj_L_isWaySo_130, j_L_isWaySo_164, oj_L_isWaySo_164, ↓reduceIte, if_true, if_false, true_and, not_true_eq_false, not_false_eq_true, Bool.false_eq_true, true_implies, false_implies, and_true]
            exact go _
        · simp only [hz, d', wy, a0, x0, a1, x1, g, sa, y1, n10, n01, un, add, bind1, j_L_isWaySo_102, oj_L_isWaySo_102, j_L_isWaySo_130, oj_L_isWaySo_130, j_L_isWaySo_164, oj_L_isWaySo_164, ↓reduceIte, if_true, if_false, true_and, not_true_eq_false, not_false_eq_true, Bool.false_eq_true, true_implies, false_implies, and_true]
          exact go _
      · have sx : srcI s nx = nI at0 := by
          unfold srcI
          rw [if_neg (by have := (rH_pos g).1; omega), e]
        by_cases y1 : srcI s at0 = nI nx
        · by_cases y2 : rH s at0 = true
          · simp only [hz, d', wy, a0, x0, a1, x1, g, sx, y1, y2, n10, n01, un, add, bind1, j_L_isWaySo_102, oj_L_isWaySo_102, j_L_isWaySo_130, oj_L_isWaySo_130, j_L_isWaySo_164, oj_L_isWaySo_164, ↓reduceIte, if_true, if_false, true_and, not_true_eq_false, not_false_eq_true, Bool.false_eq_true, true_implies, false_implies, and_true]
            exact go _
          · simp only [hz, d', wy, a0, x0, a1, x1, g, sx, y1, y2, n10, n01, un, add, bind1, j_L_isWaySo_102, oj_L_isWaySo_102, j_L_isWaySo_130, oj_L_isWaySo_130, j_L_isWaySo_164, oj_L_isWaySo_164, ↓reduceIte, if_true, if_false, true_and, not_true_eq_false, not_false_eq_true, Bool.false_eq_true, true_implies, false_implies, and_true]
            exact go _
        · simp only [hz, d', wy, a0, x0, a1, x1, g, sx, y1, n10, n01, un, add, bind1, j_L_isWaySo_102, oj_L_isWaySo_102, j_L_isWaySo_130, oj_L_isWaySo_130, j_L_isWaySo_164, oj_L_isWaySo_164, ↓reduceIte, if_true, if_false, true_and, not_true_eq_false, not_false_eq_true, Bool.false_eq_true, true_implies, false_implies, and_true]
          exact go _
theorem isWaySo_n (h : OKS N s n) {v : Nat} (hv : rP s v) (M E : CS) : o_L_isWaySo M N E (nI v) ∧ (f_L_isWaySo M N E (nI v)).1 = true := by
  obtain ⟨w, a⟩ := RO.ex h hv
  have W := h.1
  have T := W.tr
  have dl : yD s w v ≤ 23 := DD_le T a.1.1 hv a.2
  have v3 := ver3 h hv a M
  have v4 := ver4 h hv a M
  have w0 : ∀ E, (f_X6_way M N E (nI v) 0).1 = nI w := fun E => by
    have x := way_c h hv a (k := 0) (by decide) M E
    rw [if_neg (by omega), show yP s w v 0 = w from PP_zero w v] at x
    exact x
  have w1 : ∀ E, (f_X6_way M N E (nI v) (nI (yD s w v))).1 = nI v := fun E => by
    rw [way_c h hv a (by omega), if_neg (by omega), show yP s w v (yD s w v) = v from PP_end T a.1.1 hv a.2]
  have w2 : ∀ E, (f_X6_way M N E (nI v) (nI (yD s w v) + 1)).1 = -5 := fun E => by
    rw [nI_1, way_c h hv a (by omega), if_pos (by omega)]
  have go := isWay_loop h hv a M (v4 E) 25 1 (by decide) (by omega) (by omega)
  have go := fun E' => go E' 0 (by
    show 0 + yC s (yP s w v 0) v = _
    rw [show yP s w v 0 = w from PP_zero w v, Nat.zero_add])
  have go : ∀ E', ol_L_isWaySo_60 M N (nI v) (f_X6_version M N E (nI v) 4) 25 E' (nI (yP s w v 0)) 0 1 1 ∧ (l_L_isWaySo_60 M N (nI v) (f_X6_version M N E (nI v) 4) 25 E' (nI (yP s w v 0)) 0 1 1).1 = true := go
  rw [show yP s w v 0 = w from PP_zero w v] at go
  have j55 : ∀ z2 E', z2.1 = nI w → oj_L_isWaySo_55 M N (nI v) (f_X6_version M N E (nI v) 4) z2 E' 1 ∧ (j_L_isWaySo_55 M N (nI v) (f_X6_version M N E (nI v) 4) z2 E' 1).1 = true := by
    intro z2 E' e
    unfold oj_L_isWaySo_55 j_L_isWaySo_55
    rw [e]
    exact go E'
  unfold o_L_isWaySo f_L_isWaySo
  simp only [bind1, v3, v4, w0, w1, w2, if_true, true_and, not_true_eq_false, Bool.false_eq_true, true_implies, false_implies, and_true]
  exact j55 _ _ (w0 _)
end ISWAY
