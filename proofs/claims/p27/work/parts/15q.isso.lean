/-! PURE PART. isSo -/
section ISSO
variable {N : CS} {s : Nat → Int32} {n : Nat}
/-- the source that is told -/
def srcI (s : Nat → Int32) (v : Nat) : Int32 := if v = 0 then -5 else nI (rU s v)
theorem ver0g (h : OKS N s n) {v : Nat} (hv : rP s v) (M E : CS) : f_X6_version M N E (nI v) 0 = (srcI s v, E) := by
  unfold srcI
  by_cases c : v = 0
  · subst c
    rw [if_pos rfl]
    exact ver0_0 h M E
  · rw [if_neg c]
    exact ver0 h hv (by omega) M E
theorem itT_up (W : SH s) {v : Nat} (hv : rP s v) (g : rH s v = true) : cntB (iT s (rU s v)) 24 = cntB (iT s v) 24 := by
  refine cntB_congr (fun i _ => ?_)
  unfold iT
  rw [show rT s (rU s v) = rT s v from tp_up W.tr hv g]
def b01 (b : Bool) : Int32 := if b = true then 1 else 0
set_option maxHeartbeats 16000000 in
theorem isSo_step (h : OKS N s n) {i w : Nat} (hi : rP s i) (a : RO s i w) (M O : CS) (Q : HS) (m : Nat) {x1 x2 x3 x4 x5 x6 x7 x8 : Int32} (E : CS)
    (H : ∀ E', (l_L_isSo_27 M N Q O m E' (x1 + 1) (i + 1) (x2 + if w = i then 1 else 0) (x3 + if rH s i = true then 1 else 0) (x4 + if 0 < i ∧ ¬ rH s i = true then 1 else 0) (x5 + ((if w = i then 8 else 0) + if rH s i = true then 1 + 2 * nI (rW s i) else 0)) (x6 + s (13 * i + 4)) (x7 + if s (13 * i + 4) = 0 then 1 else 0) (if x8 < nI (yD s w i) then nI (yD s w i) else x8) 1).1 = true) :
    (l_L_isSo_27 M N Q O (m + 1) E x1 i x2 x3 x4 x5 x6 x7 x8 1).1 = true := by
  have W := h.1
  have i24 := hi.1
  have w24 := a.1.1.1
  have dl : yD s w i ≤ 23 := DD_le W.tr a.1.1 hi a.2
  have cl : yC s w i ≤ 368 := wC_le W a.1.1 hi a.2
  have ul := uc_le s i w
  have v3 := ver3 h hi a
  have v3w := ver3 h a.1.1 (v := w) (w := w) ⟨a.1, rfl⟩
  have v4 := ver4 h hi a
  have v5 := ver5 h hi a
  have v9 := ver9 h hi a
  have v0 := ver0g h hi
  have v1 := ver1 h hi
  have v6 := ver6 h hi
  have v8 := ver8 h hi
  have un := unl_c h hi a.1.1
  have nw : ¬ nI w < 0 := nI_pos (by omega)
  have e9 : nI (1 + yC s w i) = 1 + nI (yC s w i) := (nI_add 1 _).symm
  have lt : ¬ nI (yC s w i) < nI (uc s i w) := nI_nlt (by rw [uc_comm]; exact uc_way W a.1.1 hi a.2) (by omega)
  have wi : nI w = nI i ↔ w = i := nI_eq (by omega) (by omega)
  have d0 : nI (yD s w i) = 0 ↔ w = i := (nI_eq (b := 0) (by omega) (by decide)).trans (yD_zero W a.1.1 hi a.2)
  have n10 : ¬ (1 : Int32) = 0 := by decide
  have n01 : ¬ (0 : Int32) = 1 := by decide
  have src : 0 < i → f_X6_unlike M N (nI i) (srcI s i) = nI (rW s i) := fun i0 => by
    unfold srcI
    rw [if_neg (by omega)]
    exact unl_c h hi (W.2.2.1 i i0 hi).2 M
  have kept : rH s i = true → (∀ M E, (f_X6_version M N E (srcI s i) 3).1 = nI w) ∧ (∀ M E, (f_X6_version M N E (srcI s i) 8).1 = nI (cntB (iT s i) 24)) := fun g => by
    have i0 := (rH_pos g).1
    have hu := (W.2.2.1 i i0 hi).2
    unfold srcI
    rw [if_neg (by omega), ← itT_up W hi g]
    exact ⟨ver3 h hu (a.ot (tp_up W.tr hi g)), ver8 h hu⟩
  have s5 : ¬ 0 < i → srcI s i = -5 := fun z => by
    unfold srcI
    rw [if_pos (by omega)]
  rw [l_L_isSo_27]
  by_cases i0 : 0 < i
  · have i1 : ¬ i = 0 := by omega
    have src := src i0
    by_cases c2 : rH s i = true
    · obtain ⟨k3, k8⟩ := kept c2
      by_cases c1 : w = i
      · subst c1
        by_cases c4 : s (13 * w + 4) = 0 <;> by_cases c5 : x8 < nI (yD s w w) <;>
        simp only [i0, i1, c2, c4, c5, ↓reduceIte, if_true, if_false, not_true_eq_false, not_false_eq_true, and_true, and_false, true_and, false_and] at H <;>
        simp only [bind1, j_L_isSo_74, j_L_isSo_92, j_L_isSo_110, j_L_isSo_123, j_L_isSo_142, j_L_isSo_160, j_L_isSo_175, j_L_isSo_197, j_L_isSo_237, j_L_isSo_268, j_L_isSo_283, j_L_isSo_382, j_L_isSo_384, v3, v3w, v4, v5, v9, v0, v1, v6, v8, un, nw, e9, lt, wi, d0, n10, n01, src, k3, k8, i24, i0, i1, c2, c4, c5, ↓reduceIte, if_true, if_false] <;>
        exact H _
      · have wi : ¬ nI w = nI i := fun z => c1 (wi.mp z)
        have d0 : ¬ nI (yD s w i) = 0 := fun z => c1 (d0.mp z)
        by_cases c4 : s (13 * i + 4) = 0 <;> by_cases c5 : x8 < nI (yD s w i) <;>
        simp only [i0, i1, c1, c2, c4, c5, ↓reduceIte, if_true, if_false, not_true_eq_false, not_false_eq_true, and_true, and_false, true_and, false_and] at H <;>
        simp only [bind1, j_L_isSo_74, j_L_isSo_92, j_L_isSo_110, j_L_isSo_123, j_L_isSo_142, j_L_isSo_160, j_L_isSo_175, j_L_isSo_197, j_L_isSo_237, j_L_isSo_268, j_L_isSo_283, j_L_isSo_382, j_L_isSo_384, v3, v3w, v4, v5, v9, v0, v1, v6, v8, un, nw, e9, lt, wi, d0, n10, n01, src, k3, k8, i24, i0, i1, c1, c2, c4, c5, ↓reduceIte, if_true, if_false] <;>
        exact H _
    · by_cases c1 : w = i
      · subst c1
        by_cases c4 : s (13 * w + 4) = 0 <;> by_cases c5 : x8 < nI (yD s w w) <;>
        simp only [i0, i1, c2, c4, c5, ↓reduceIte, if_true, if_false, not_true_eq_false, not_false_eq_true, and_true, and_false, true_and, false_and] at H <;>
        simp only [bind1, j_L_isSo_74, j_L_isSo_92, j_L_isSo_110, j_L_isSo_123, j_L_isSo_142, j_L_isSo_160, j_L_isSo_175, j_L_isSo_197, j_L_isSo_237, j_L_isSo_268, j_L_isSo_283, j_L_isSo_382, j_L_isSo_384, v3, v3w, v4, v5, v9, v0, v1, v6, v8, un, nw, e9, lt, wi, d0, n10, n01, src, i24, i0, i1, c2, c4, c5, ↓reduceIte, if_true, if_false] <;>
        exact H _
      · have wi : ¬ nI w = nI i := fun z => c1 (wi.mp z)
        have d0 : ¬ nI (yD s w i) = 0 := fun z => c1 (d0.mp z)
        by_cases c4 : s (13 * i + 4) = 0 <;> by_cases c5 : x8 < nI (yD s w i) <;>
        simp only [i0, i1, c1, c2, c4, c5, ↓reduceIte, if_true, if_false, not_true_eq_false, not_false_eq_true, and_true, and_false, true_and, false_and] at H <;>
        simp only [bind1, j_L_isSo_74, j_L_isSo_92, j_L_isSo_110, j_L_isSo_123, j_L_isSo_142, j_L_isSo_160, j_L_isSo_175, j_L_isSo_197, j_L_isSo_237, j_L_isSo_268, j_L_isSo_283, j_L_isSo_382, j_L_isSo_384, v3, v3w, v4, v5, v9, v0, v1, v6, v8, un, nw, e9, lt, wi, d0, n10, n01, src, i24, i0, i1, c1, c2, c4, c5, ↓reduceIte, if_true, if_false] <;>
        exact H _
  · have i1 : i = 0 := by omega
    have s5 := s5 i0
    have c2 : ¬ rH s i = true := fun g => i0 (rH_pos g).1
    have iz : (i = 0) = True := eq_true i1
    by_cases c1 : w = i
    · subst c1
      by_cases c4 : s (13 * w + 4) = 0 <;> by_cases c5 : x8 < nI (yD s w w) <;>
      simp only [i0, c2, c4, c5, ↓reduceIte, if_true, if_false, not_true_eq_false, not_false_eq_true, and_true, and_false, true_and, false_and] at H <;>
      simp only [bind1, j_L_isSo_74, j_L_isSo_92, j_L_isSo_110, j_L_isSo_123, j_L_isSo_142, j_L_isSo_160, j_L_isSo_175, j_L_isSo_197, j_L_isSo_237, j_L_isSo_268, j_L_isSo_283, j_L_isSo_382, j_L_isSo_384, v3, v3w, v4, v5, v9, v0, v1, v6, v8, un, nw, e9, lt, wi, d0, n10, n01, s5, i24, iz, i0, c2, c4, c5, ↓reduceIte, if_true, if_false] <;>
      exact H _
    · have wi : ¬ nI w = nI i := fun z => c1 (wi.mp z)
      have d0 : ¬ nI (yD s w i) = 0 := fun z => c1 (d0.mp z)
      by_cases c4 : s (13 * i + 4) = 0 <;> by_cases c5 : x8 < nI (yD s w i) <;>
      simp only [i0, c1, c2, c4, c5, ↓reduceIte, if_true, if_false, not_true_eq_false, not_false_eq_true, and_true, and_false, true_and, false_and] at H <;>
      simp only [bind1, j_L_isSo_74, j_L_isSo_92, j_L_isSo_110, j_L_isSo_123, j_L_isSo_142, j_L_isSo_160, j_L_isSo_175, j_L_isSo_197, j_L_isSo_237, j_L_isSo_268, j_L_isSo_283, j_L_isSo_382, j_L_isSo_384, v3, v3w, v4, v5, v9, v0, v1, v6, v8, un, nw, e9, lt, wi, d0, n10, n01, s5, i24, iz, i0, c1, c2, c4, c5, ↓reduceIte, if_true, if_false] <;>
      exact H _
end ISSO
