/-! PURE PART. counts -/
section CNT
variable {N : CS} {S : CS} {n : Nat}
theorem vers_loop {a : Int32} {p : Nat → Bool} (hp : ∀ (m i : Nat) (x : Int32), i < 24 → (ol_X7_versions_4 S a m (x + (if p i = true then 1 else 0)) (i + 1) → ol_X7_versions_4 S a (m + 1) x i) ∧ l_X7_versions_4 S a (m + 1) x i = l_X7_versions_4 S a m (x + (if p i = true then 1 else 0)) (i + 1)) : ol_X7_versions_4 S a 25 0 0 ∧ f_X7_versions S a = nI (cntB p 24) := by
  have key : ∀ (m i : Nat), i ≤ 24 → i + m = 25 → ol_X7_versions_4 S a m (nI (cntB p i)) i ∧ l_X7_versions_4 S a m (nI (cntB p i)) i = nI (cntB p 24) := by
    intro m
    induction m with
    | zero => intro i h1 h2; omega
    | succ m ih =>
      intro i h1 h2
      by_cases q : i < 24
      · obtain ⟨a1, a2⟩ := ih (i + 1) (by omega) (by omega)
        obtain ⟨b1, b2⟩ := hp m i (nI (cntB p i)) q
        have e : nI (cntB p i) + (if p i = true then 1 else 0) = nI (cntB p (i + 1)) := by
          rw [cntB]
          by_cases c : p i = true
          · rw [if_pos c, if_pos c]; exact nI_1 _
          · rw [if_neg c, if_neg c]; exact nI_add _ 0
        rw [e] at b1 b2
        exact ⟨b1 a1, b2.trans a2⟩
      · have : i = 24 := by omega
        subst this
        rw [ol_X7_versions_4, l_X7_versions_4, if_neg q]
        exact ⟨⟨fun z => absurd z q, fun _ => trivial⟩, rfl⟩
  exact key 25 0 (by decide) (by decide)
theorem pB_if {s : Nat → Int32} {i : Nat} (q : i < 24) : (pB s i = true) ↔ s (13 * i) = 1 := by
  unfold pB
  simp [q]
theorem vers0 : o_X7_versions S 0 ∧ f_X7_versions S 0 = nI (cntB (pB (S.2 0)) 24) := by
  refine vers_loop (fun m i x q => ?_)
  rw [ol_X7_versions_4, l_X7_versions_4, if_pos q, cl0 q, if_pos (show (0 : Int32) = 0 from rfl)]
  by_cases c : S.2 0 (13 * i) = 1
  · rw [if_pos c, if_pos ((pB_if q).mpr c)]
    exact ⟨fun z => ⟨fun _ => ⟨fun _ => ⟨vi0 q, fun _ => z, fun k => absurd c k⟩, fun k => absurd rfl k⟩, fun k => absurd q k⟩, rfl⟩
  · rw [if_neg c, if_neg (fun k => c ((pB_if q).mp k))]
    exact ⟨fun z => ⟨fun _ => ⟨fun _ => ⟨vi0 q, fun k => absurd k c, fun _ => z⟩, fun k => absurd rfl k⟩, fun k => absurd q k⟩, rfl⟩
theorem vers1 : o_X7_versions S 1 ∧ f_X7_versions S 1 = nI (cntB (tB (S.2 0)) 24) := by
  have n10 : ¬ (1 : Int32) = 0 := by decide
  refine vers_loop (fun m i x q => ?_)
  rw [ol_X7_versions_4, l_X7_versions_4, if_pos q, cl0 q, cl3 q, if_neg n10, if_pos (show (1 : Int32) = 1 from rfl)]
  by_cases c : S.2 0 (13 * i) = 1
  · by_cases d : S.2 0 (13 * i + 3) = 1
    · have t : tB (S.2 0) i = true := tB_iff.mpr ⟨⟨q, c⟩, d⟩
      rw [if_pos d, if_pos c, if_pos t]
      exact ⟨fun z => ⟨fun _ => ⟨fun k => absurd k n10, fun _ => ⟨fun _ => ⟨vi3 q, fun _ => ⟨vi0 q, fun _ => z, fun k => absurd c k⟩, fun k => absurd d k⟩, fun k => absurd rfl k⟩⟩, fun k => absurd q k⟩, rfl⟩
    · have t : ¬ tB (S.2 0) i = true := fun k => d (tB_iff.mp k).2
      rw [if_neg d, if_pos c, if_neg t]
      exact ⟨fun z => ⟨fun _ => ⟨fun k => absurd k n10, fun _ => ⟨fun _ => ⟨vi3 q, fun k => absurd k d, fun _ => ⟨vi0 q, fun _ => z, fun k => absurd c k⟩⟩, fun k => absurd rfl k⟩⟩, fun k => absurd q k⟩, rfl⟩
  · have t : ¬ tB (S.2 0) i = true := fun k => c (tB_iff.mp k).1.2
    rw [if_neg t]
    by_cases d : S.2 0 (13 * i + 3) = 1
    · rw [if_pos d, if_neg c]
      exact ⟨fun z => ⟨fun _ => ⟨fun k => absurd k n10, fun _ => ⟨fun _ => ⟨vi3 q, fun _ => ⟨vi0 q, fun k => absurd k c, fun _ => z⟩, fun k => absurd d k⟩, fun k => absurd rfl k⟩⟩, fun k => absurd q k⟩, rfl⟩
    · rw [if_neg d, if_neg c]
      exact ⟨fun z => ⟨fun _ => ⟨fun k => absurd k n10, fun _ => ⟨fun _ => ⟨vi3 q, fun k => absurd k d, fun _ => ⟨vi0 q, fun k => absurd k c, fun _ => z⟩⟩, fun k => absurd rfl k⟩⟩, fun k => absurd q k⟩, rfl⟩
theorem many_n (R : RS N (S.2 0)) : f_X5_howMany N = f_X7_versions S 0 := by
  rw [vers0.2]
  unfold f_X5_howMany
  rw [bitCount_bt (fun i h1 h2 => by rw [R.1 i h2]; unfold pB; simp; omega)]
  exact congrArg nI (cntB_congr (fun i hi => R.1 i (by omega)))
theorem trees_c (R : RS N (S.2 0)) : f_X5_trees N = nI (cntB (tB (S.2 0)) 24) := by
  unfold f_X5_trees
  rw [bitCount_bt (fun i h1 h2 => by rw [R.2.2.1 i h2]; unfold tB pB; simp; omega)]
  exact congrArg nI (cntB_congr (fun i hi => R.2.2.1 i (by omega)))
theorem trees_n (R : RS N (S.2 0)) : f_X5_trees N = f_X7_versions S 1 := by rw [vers1.2, trees_c R]
end CNT
