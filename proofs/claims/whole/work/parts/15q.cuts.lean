/-! PURE PART. cuts -/
section CUTS
variable {N : CS} {S : CS} {n : Nat}
theorem vers6 : o_X7_versions S 6 ∧ f_X7_versions S 6 = nI (cntB (cB (S.2 0)) 24) := by
  have n60 : ¬ (6 : Int32) = 0 := by decide
  have n61 : ¬ (6 : Int32) = 1 := by decide
  have n65 : ¬ (6 : Int32) = 5 := by decide
  refine vers_loop (fun m i x q => ?_)
  rw [ol_X7_versions_4, l_X7_versions_4, if_pos q, cl0 q, cl2 q, if_neg n60, if_neg n61, if_neg n65]
  by_cases g : 0 < i
  · rw [if_pos g]
    by_cases c : S.2 0 (13 * i) = 1
    · by_cases d : S.2 0 (13 * i + 2) = 0
      · have t : cB (S.2 0) i = true := by unfold cB; rw [(pB_if q).mpr c]; simp [d, g]
        rw [if_pos d, if_pos c, if_pos t]
        exact ⟨fun z => ⟨fun _ => ⟨fun k => absurd k n60, fun _ => ⟨fun k => absurd k n61, fun _ => ⟨fun k => absurd k n65, fun _ => ⟨fun _ => ⟨vi2 q, fun _ => ⟨vi0 q, fun _ => z, fun k => absurd c k⟩, fun k => absurd d k⟩, fun k => absurd g k⟩⟩⟩⟩, fun k => absurd q k⟩, rfl⟩
      · have t : ¬ cB (S.2 0) i = true := by unfold cB; simp [d]
        rw [if_neg d, if_pos c, if_neg t]
        exact ⟨fun z => ⟨fun _ => ⟨fun k => absurd k n60, fun _ => ⟨fun k => absurd k n61, fun _ => ⟨fun k => absurd k n65, fun _ => ⟨fun _ => ⟨vi2 q, fun k => absurd k d, fun _ => ⟨vi0 q, fun _ => z, fun k => absurd c k⟩⟩, fun k => absurd g k⟩⟩⟩⟩, fun k => absurd q k⟩, rfl⟩
    · have t : ¬ cB (S.2 0) i = true := fun k => c ((pB_if q).mp (Bool.and_eq_true_iff.mp k).1)
      by_cases d : S.2 0 (13 * i + 2) = 0
      · rw [if_pos d, if_neg c, if_neg t]
        exact ⟨fun z => ⟨fun _ => ⟨fun k => absurd k n60, fun _ => ⟨fun k => absurd k n61, fun _ => ⟨fun k => absurd k n65, fun _ => ⟨fun _ => ⟨vi2 q, fun _ => ⟨vi0 q, fun k => absurd k c, fun _ => z⟩, fun k => absurd d k⟩, fun k => absurd g k⟩⟩⟩⟩, fun k => absurd q k⟩, rfl⟩
      · rw [if_neg d, if_neg c, if_neg t]
        exact ⟨fun z => ⟨fun _ => ⟨fun k => absurd k n60, fun _ => ⟨fun k => absurd k n61, fun _ => ⟨fun k => absurd k n65, fun _ => ⟨fun _ => ⟨vi2 q, fun k => absurd k d, fun _ => ⟨vi0 q, fun k => absurd k c, fun _ => z⟩⟩, fun k => absurd g k⟩⟩⟩⟩, fun k => absurd q k⟩, rfl⟩
  · have t : ¬ cB (S.2 0) i = true := by unfold cB; simp [g]
    rw [if_neg g, if_neg t]
    by_cases c : S.2 0 (13 * i) = 1
    · rw [if_pos c]
      exact ⟨fun z => ⟨fun _ => ⟨fun k => absurd k n60, fun _ => ⟨fun k => absurd k n61, fun _ => ⟨fun k => absurd k n65, fun _ => ⟨fun k => absurd k g, fun _ => ⟨vi0 q, fun _ => z, fun k => absurd c k⟩⟩⟩⟩⟩, fun k => absurd q k⟩, rfl⟩
    · rw [if_neg c]
      exact ⟨fun z => ⟨fun _ => ⟨fun k => absurd k n60, fun _ => ⟨fun k => absurd k n61, fun _ => ⟨fun k => absurd k n65, fun _ => ⟨fun k => absurd k g, fun _ => ⟨vi0 q, fun k => absurd k c, fun _ => z⟩⟩⟩⟩⟩, fun k => absurd q k⟩, rfl⟩
theorem cuts_n (h : OKS N (S.2 0) n) : f_X5_cuts N = f_X7_versions S 6 := by
  obtain ⟨W, L, R, -⟩ := h
  rw [vers6.2]
  have b : ∀ i, i < 32 → bt ((N.1 0 &&& (N.1 1 ^^^ (-1))) &&& (f_X4_of 0 ^^^ (-1))) i = cB (S.2 0) i := by
    intro i hi
    rw [bt_and, bt_and, bt_not hi, bt_not hi, show (0 : Int32) = nI 0 from rfl, bt_of (by decide) hi, R.1 i hi, R.2.1 i hi]
    unfold cB
    by_cases c : pB (S.2 0) i = true
    · have hp := pB_iff.mp c
      rw [c]
      by_cases g : 0 < i
      · unfold rH
        rcases L.1 i g hp with d | d
        · simp [d, g]; omega
        · simp [d, g]
      · have : i = 0 := by omega
        subst this
        simp
    · have c' : pB (S.2 0) i = false := by simpa using c
      rw [c']
      rfl
  unfold f_X5_cuts
  simp only [bind1]
  rw [bitCount_bt (fun i h1 h2 => by rw [b i h2]; unfold cB pB; simp; omega)]
  exact congrArg nI (cntB_congr (fun i hi => b i (by omega)))
end CUTS
