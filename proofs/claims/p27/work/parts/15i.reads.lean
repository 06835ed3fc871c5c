/-! PURE PART. what the class tells, in the row's words -/
/-- w is the root of v's tree -/
def RO (s : Nat → Int32) (v w : Nat) : Prop := rR s w ∧ rT s w = rT s v
section READS
variable {N : CS} {s : Nat → Int32} {n : Nat}
theorem RO.ex (h : OKS N s n) {v : Nat} (hv : rP s v) : ∃ w, RO s v w := h.2.1.2.1 v hv
theorem RO.uq (h : OKS N s n) {v w w' : Nat} (a : RO s v w) (b : RO s v w') : w = w' := h.2.1.2.2.1 w w' a.1 b.1 (a.2.trans b.2.symm)
theorem RO.ot {v u w : Nat} (a : RO s v w) (e : rT s u = rT s v) : RO s u w := ⟨a.1, a.2.trans e.symm⟩
theorem root_c (h : OKS N s n) {v w : Nat} (a : RO s v w) {E : CS} (hE : SPR s v E) : f_X2_rootReached E N = nI w := by
  obtain ⟨W, L, R, -⟩ := h
  obtain ⟨w1, w2⟩ := a
  have w24 := w1.1.1
  unfold f_X2_rootReached
  refine ntz_bt w24 (fun i hi => ?_)
  rw [bt_and, R.2.2.1 i hi]
  by_cases c : i = w
  · subst c
    rw [tB_iff.mpr w1, (hE.1 i hi).mpr ⟨w1.1, w2⟩]
    simp
  · have : (bt (E.1 0) i && tB s i) = false := by
      cases q : bt (E.1 0) i with
      | false => rfl
      | true =>
        cases q2 : tB s i with
        | false => rfl
        | true => exact absurd (L.2.2.1 i w (tB_iff.mp q2) w1 (((hE.1 i hi).mp q).2.trans w2.symm)) c
    rw [this]
    simp [c]
theorem steps_n {v u : Nat} {E : CS} (hE : SPR s v E) (hu : inT s v u) : f_X2_stepsTo E (nI u) = nI (yD s u v) ∧ f_X2_cellsTo E (nI u) = nI (yC s u v) := by
  obtain ⟨h1, h2, -⟩ := hE.2.2 u hu
  have := hu.1.1
  unfold f_X2_stepsTo f_X2_cellsTo
  rw [at_n _ hu.1.1 (by decide), at_n _ hu.1.1 (by decide)]
  exact ⟨h1, h2⟩
def iT (s : Nat → Int32) (v i : Nat) : Bool := pB s i && decide (rT s i = rT s v)
theorem iT_iff {s : Nat → Int32} {v i : Nat} : iT s v i = true ↔ inT s v i := by
  unfold iT inT
  rw [Bool.and_eq_true, pB_iff, decide_eq_true_iff]
theorem size_c {v : Nat} {E : CS} (hE : SPR s v E) : f_J6_bitCount_0f7a4 (E.1 0) = nI (cntB (iT s v) 24) := by
  rw [bitCount_bt (fun i h1 h2 => by
    cases q : bt (E.1 0) i with
    | false => rfl
    | true => exact absurd ((hE.1 i h2).mp q).1.1 (by omega))]
  exact congrArg nI (cntB_congr (fun i hi => Bool.eq_iff_iff.mpr ((hE.1 i (by omega)).trans iT_iff.symm)))
theorem tell_n (h : OKS N s n) {v w : Nat} (hv : rP s v) (a : RO s v w) (M E : CS) (k : Int32) : f_X6_tellOfTree M N E (nI v) k = (if k = 3 then (nI w, f_X2_spread E N (nI v)) else if k = 4 then (nI (yD s w v), f_X2_spread E N (nI v)) else if k = 5 then (nI (yC s w v), f_X2_spread E N (nI v)) else if k = 6 then (-2, f_X2_spread E N (nI v)) else if k = 7 then (-2, f_X2_spread E N (nI v)) else if k = 8 then (nI (cntB (iT s v) 24), f_X2_spread E N (nI v)) else if k = 9 then (nI (1 + yC s w v), f_X2_spread E N (nI v)) else (-2, f_X2_spread E N (nI v))) := by
  have hE := spread_n h.1 h.2.2.1 hv E
  unfold f_X6_tellOfTree
  simp only [bind1]
  rw [root_c h a hE, (steps_n hE ⟨a.1.1, a.2⟩).1, (steps_n hE ⟨a.1.1, a.2⟩).2, size_c hE, show (1 : Int32) + nI (yC s w v) = nI (1 + yC s w v) from nI_add 1 _]
theorem ver_tell (h : OKS N s n) {v : Nat} (hv : rP s v) (M E : CS) {k : Int32} (c : k = 3 ∨ k = 4 ∨ k = 5 ∨ k = 8 ∨ k = 9) : (f_X6_version M N E (nI v) k).1 = (f_X6_tellOfTree M N E (nI v) k).1 := by
  unfold f_X6_version
  rw [has_P h.2.2.1 hv, if_pos rfl]
  rcases c with rfl | rfl | rfl | rfl | rfl <;> rfl
theorem ver3 (h : OKS N s n) {v w : Nat} (hv : rP s v) (a : RO s v w) (M E : CS) : (f_X6_version M N E (nI v) 3).1 = nI w := by
  rw [ver_tell h hv M E (Or.inl rfl), tell_n h hv a]
  rfl
theorem ver4 (h : OKS N s n) {v w : Nat} (hv : rP s v) (a : RO s v w) (M E : CS) : (f_X6_version M N E (nI v) 4).1 = nI (yD s w v) := by
  rw [ver_tell h hv M E (Or.inr (Or.inl rfl)), tell_n h hv a]
  rfl
theorem ver5 (h : OKS N s n) {v w : Nat} (hv : rP s v) (a : RO s v w) (M E : CS) : (f_X6_version M N E (nI v) 5).1 = nI (yC s w v) := by
  rw [ver_tell h hv M E (Or.inr (Or.inr (Or.inl rfl))), tell_n h hv a]
  rfl
theorem ver8 (h : OKS N s n) {v : Nat} (hv : rP s v) (M E : CS) : (f_X6_version M N E (nI v) 8).1 = nI (cntB (iT s v) 24) := by
  obtain ⟨w, a⟩ := RO.ex h hv
  rw [ver_tell h hv M E (Or.inr (Or.inr (Or.inr (Or.inl rfl)))), tell_n h hv a]
  rfl
theorem ver9 (h : OKS N s n) {v w : Nat} (hv : rP s v) (a : RO s v w) (M E : CS) : (f_X6_version M N E (nI v) 9).1 = nI (1 + yC s w v) := by
  rw [ver_tell h hv M E (Or.inr (Or.inr (Or.inr (Or.inr rfl)))), tell_n h hv a]
  rfl
theorem ver_no (h : OKS N s n) {v : Nat} (hv : v < 24) (c : ¬ rP s v) (M E : CS) (k : Int32) : f_X6_version M N E (nI v) k = (-1, E) := by
  unfold f_X6_version
  have : pB s v = false := by
    cases q : pB s v with
    | false => rfl
    | true => exact absurd (pB_iff.mp q) c
  rw [has_n h.2.2.1 hv, this, if_neg (by decide)]
theorem ver0_0 (h : OKS N s n) (M E : CS) : f_X6_version M N E (nI 0) 0 = (-5, E) := by
  unfold f_X6_version
  rw [has_P h.2.2.1 h.1.p0, if_pos rfl, if_pos rfl, if_pos (show nI 0 = 0 from rfl)]
theorem ver0 (h : OKS N s n) {v : Nat} (hv : rP s v) (v0 : 0 < v) (M E : CS) : f_X6_version M N E (nI v) 0 = (nI (rU s v), E) := by
  have := hv.1
  unfold f_X6_version
  rw [has_P h.2.2.1 hv, if_pos rfl, if_pos rfl, if_neg (fun q => by have := (nI_eq (b := 0) (by omega) (by decide)).mp q; omega), src_s h.2.2.1 hv v0]
theorem ver1 (h : OKS N s n) {v : Nat} (hv : rP s v) (M E : CS) : f_X6_version M N E (nI v) 1 = (if rH s v = true then 1 else 0, E) := by
  unfold f_X6_version
  rw [has_P h.2.2.1 hv, if_pos rfl, if_neg (by decide), if_pos rfl, kept_n h.2.2.1 hv]
  by_cases c : rH s v = true
  · rw [if_pos c, if_pos c]
  · rw [if_neg c, if_neg c]
theorem ver6 (h : OKS N s n) {v : Nat} (hv : rP s v) (M E : CS) : f_X6_version M N E (nI v) 6 = (s (13 * v + 4), E) := by
  unfold f_X6_version
  rw [has_P h.2.2.1 hv, if_pos rfl, if_neg (by decide), if_neg (by decide), if_neg (by decide), if_neg (by decide), if_neg (by decide), if_neg (by decide), if_pos rfl, asked_n h.2.2.1 hv]
theorem unl_c (h : OKS N s n) {v u : Nat} (hv : rP s v) (hu : rP s u) (M : CS) : f_X6_unlike M N (nI v) (nI u) = nI (uc s v u) := by
  unfold f_X6_unlike
  rw [has_P h.2.2.1 hv, has_P h.2.2.1 hu, if_pos rfl, if_pos rfl, mask_cnt (unl_n h.2.2.1 hv hu)]
  rfl
end READS
