/-! PURE PART. the start -/
theorem ini0 {j : Nat} (h0 : j ≠ 0) (h1 : j ≠ 1) (h3 : j ≠ 3) (h4 : j ≠ 312) (h5 : j ≠ 313) : initMoS j = 0 := by
  unfold initMoS
  rw [pk_un h5, pk_un h4, pk_un h3, pk_un h1, pk_un h0]
theorem ini_P {v : Nat} (h : rP initMoS v) : v = 0 := by
  obtain ⟨a, b⟩ := h
  by_cases c : v = 0
  · exact c
  · rw [ini0 (by omega) (by omega) (by omega) (by omega) (by omega)] at b
    exact absurd b (by decide)
theorem ini_0 : initMoS 0 = 1 ∧ initMoS 1 = -5 ∧ initMoS 3 = 1 ∧ initMoS 312 = 1 ∧ initMoS 313 = 6 := by
  unfold initMoS
  refine ⟨?_, ?_, ?_, ?_, ?_⟩
  · rw [pk_un (by decide), pk_un (by decide), pk_un (by decide), pk_un (by decide), pk_us]
  · rw [pk_un (by decide), pk_un (by decide), pk_un (by decide), pk_us]
  · rw [pk_un (by decide), pk_un (by decide), pk_us]
  · rw [pk_un (by decide), pk_us]
  · rw [pk_us]
theorem bt_1 {i : Nat} (h : i < 32) : bt 1 i = decide (i = 0) := by
  have e : ∀ i : Fin 32, bt 1 i.1 = decide (i.1 = 0) := by decide +kernel
  exact e ⟨i, h⟩
theorem ini_K : OKS initSt initMoS 0 := by
  obtain ⟨i0, i1, i3, i12, i13⟩ := ini_0
  have p0 : rP initMoS 0 := ⟨by decide, i0⟩
  have pb : ∀ i, pB initMoS i = decide (i = 0) := fun i => by
    rw [Bool.eq_iff_iff, pB_iff, decide_eq_true_iff]
    exact ⟨ini_P, fun z => z ▸ p0⟩
  have z : ∀ j, 3 < j → j < 312 → initMoS j = 0 := fun j a b => ini0 (by omega) (by omega) (by omega) (by omega) (by omega)
  refine ⟨⟨i0, fun v hv => ?_, fun v p hv => absurd (ini_P hv) (by omega), fun v => v, fun v p hv => absurd (ini_P hv) (by omega)⟩, ⟨fun v p hv => absurd (ini_P hv) (by omega), fun v hv => ?_, fun w w' hw hw' _ => (ini_P hw.1).trans (ini_P hw'.1).symm, ⟨Or.inr (Or.inl i12), 6, by decide, by decide, i13⟩, i1⟩, ⟨fun i hi => ?_, fun i hi => ?_, fun i hi => ?_, ⟨rfl, rfl⟩, fun v p hv => absurd (ini_P hv) (by omega), fun v hv => ?_, fun j a b => ?_⟩, fun v hv => ?_⟩
  · by_cases c : v = 0
    · subst c; exact Or.inr i0
    · exact Or.inl (ini0 (by omega) (by omega) (by omega) (by omega) (by omega))
  · have := ini_P hv
    subst this
    exact ⟨0, ⟨p0, i3⟩, rfl⟩
  · show bt 1 i = _
    rw [pb, bt_1 hi]
  · show bt 0 i = _
    rw [pb, bt_0]
    by_cases c : i = 0
    · subst c
      unfold rH
      simp
    · simp [c]
  · show bt 1 i = _
    unfold tB
    rw [pb, bt_1 hi]
    by_cases c : i = 0
    · subst c
      rw [show 13 * 0 + 3 = 3 from rfl, i3]
      rfl
    · simp [c]
  · have := ini_P hv
    subst this
    exact ⟨(z 4 (by decide) (by decide)).symm, fun c hc => (z _ (by omega) (by omega)).symm⟩
  · rcases (show j = 7 ∨ j = 8 ∨ j = 9 ∨ j = 10 ∨ j = 11 ∨ j = 12 by omega) with rfl | rfl | rfl | rfl | rfl | rfl
    · exact i12.symm
    · exact i13.symm
    · exact (ini0 (by decide) (by decide) (by decide) (by decide) (by decide)).symm
    · exact (ini0 (by decide) (by decide) (by decide) (by decide) (by decide)).symm
    · exact (ini0 (by decide) (by decide) (by decide) (by decide) (by decide)).symm
    · exact (ini0 (by decide) (by decide) (by decide) (by decide) (by decide)).symm
  · have := ini_P hv
    subst this
    exact ⟨0, by decide, z 4 (by decide) (by decide)⟩
theorem rel_init : REL initZ initSt initSt initSt initHS initZ initZ initMo 0 := ⟨ini_K, ⟨0, by decide, rfl, rfl, fun i hi => hi, fun i j _ _ h => h, fun i hi => absurd hi (Nat.not_lt_zero _)⟩, Or.inl ⟨rfl, rfl⟩, Or.inl ⟨rfl, rfl⟩, 0, by decide, rfl, rfl, fun i hi => absurd hi (Nat.not_lt_zero _)⟩
