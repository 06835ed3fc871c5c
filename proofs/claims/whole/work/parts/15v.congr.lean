/-! PURE PART. rows alike below 318 -/
section CONGR
variable {s s' : Nat → Int32}
theorem rP_c (e : ∀ j, j < 318 → s' j = s j) {v : Nat} : rP s' v ↔ rP s v := by
  unfold rP
  constructor
  · rintro ⟨a, b⟩; exact ⟨a, by rw [← e _ (by omega)]; exact b⟩
  · rintro ⟨a, b⟩; exact ⟨a, by rw [e _ (by omega)]; exact b⟩
theorem rU_c (e : ∀ j, j < 318 → s' j = s j) {v : Nat} (hv : v < 24) : rU s' v = rU s v := by
  unfold rU
  rw [e _ (by omega)]
theorem rH_c (e : ∀ j, j < 318 → s' j = s j) {v : Nat} (hv : v < 24) : rH s' v = rH s v := by
  unfold rH
  rw [e _ (by omega)]
theorem rR_c (e : ∀ j, j < 318 → s' j = s j) {v : Nat} : rR s' v ↔ rR s v := by
  unfold rR
  rw [rP_c e]
  constructor
  · rintro ⟨a, b⟩; have := a.1; exact ⟨a, by rw [← e _ (by omega)]; exact b⟩
  · rintro ⟨a, b⟩; have := a.1; exact ⟨a, by rw [e _ (by omega)]; exact b⟩
theorem un_c (e : ∀ j, j < 318 → s' j = s j) {v u c : Nat} (hv : v < 24) (hu : u < 24) (hc : c < 8) : un s' v u c = un s v u c := by
  unfold un
  rw [e _ (by omega), e _ (by omega)]
theorem rT_c (W : SH s) (e : ∀ j, j < 318 → s' j = s j) {v : Nat} (hv : rP s v) : rT s' v = rT s v :=
  (tree_congr W.tr (fun v hv => rH_c e hv.1) (fun v hv _ => rU_c e hv.1) _ v hv (Nat.le_refl _)).2.1
theorem OKS.congr {N : CS} {n : Nat} (h : OKS N s n) (e : ∀ j, j < 318 → s' j = s j) : OKS N s' n := by
  obtain ⟨W, L, R, B⟩ := h
  refine ⟨⟨by rw [e 0 (by decide)]; exact W.1, fun v hv => by rw [e _ (by omega)]; exact W.2.1 v hv, fun v p hv => ?_, ?_⟩, ⟨fun v p hv => ?_, fun v hv => ?_, fun w w' hw hw' t => ?_, ⟨by rw [e 312 (by decide)]; exact L.2.2.2.1.1, by rw [e 313 (by decide)]; exact L.2.2.2.1.2⟩, by rw [e _ (by decide)]; exact L.2.2.2.2⟩, ⟨?_, ?_, ?_, R.2.2.2.1, fun v p hv => ?_, fun v hv => ?_, fun j a b => by rw [e _ (by omega)]; exact R.2.2.2.2.2.2 j a b⟩, fun v hv => ?_⟩
  · have hv := (rP_c e).mp hv
    rw [rU_c e hv.1, e _ (by have := hv.1; omega)]
    exact ⟨(W.2.2.1 v p hv).1, (rP_c e).mpr (W.2.2.1 v p hv).2⟩
  · obtain ⟨r, hr⟩ := W.2.2.2
    exact ⟨r, fun v p hv => by
      have hv := (rP_c e).mp hv
      rw [rU_c e hv.1]
      exact hr v p hv⟩
  · have hv := (rP_c e).mp hv
    rw [e _ (by have := hv.1; omega)]
    exact L.1 v p hv
  · have hv := (rP_c e).mp hv
    obtain ⟨w, a, b⟩ := L.2.1 v hv
    exact ⟨w, (rR_c e).mpr a, by rw [rT_c W e a.1, rT_c W e hv]; exact b⟩
  · have hw := (rR_c e).mp hw
    have hw' := (rR_c e).mp hw'
    rw [rT_c W e hw.1, rT_c W e hw'.1] at t
    exact L.2.2.1 w w' hw hw' t
  · intro i hi
    rw [R.1 i hi]
    by_cases c : i < 24
    · unfold pB; rw [e _ (by omega)]
    · unfold pB; simp [c]
  · intro i hi
    rw [R.2.1 i hi]
    by_cases c : i < 24
    · unfold pB; rw [e _ (by omega), rH_c e c]
    · unfold pB; simp [c]
  · intro i hi
    rw [R.2.2.1 i hi]
    by_cases c : i < 24
    · unfold tB pB; rw [e _ (by omega), e _ (by omega)]
    · unfold tB pB; simp [c]
  · have hv := (rP_c e).mp hv
    have hu := (W.2.2.1 v p hv).2.1
    rw [rU_c e hv.1]
    refine ⟨(R.2.2.2.2.1 v p hv).1, fun j hj => ?_⟩
    rw [(R.2.2.2.2.1 v p hv).2 j hj]
    by_cases c : j < 8
    · rw [un_c e hv.1 hu c]
    · simp [c]
  · have hv := (rP_c e).mp hv
    have v24 := hv.1
    rw [e _ (by omega)]
    refine ⟨(R.2.2.2.2.2.1 v hv).1, fun c hc => ?_⟩
    rw [e _ (by omega)]
    exact (R.2.2.2.2.2.1 v hv).2 c hc
  · have hv := (rP_c e).mp hv
    rw [e _ (by have := hv.1; omega)]
    exact B v hv
end CONGR
