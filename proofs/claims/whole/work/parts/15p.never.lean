/-! PURE PART. never asked, cuts -/
section NEV
variable {N : CS} {S : CS} {n : Nat}
def nB (s : Nat → Int32) (i : Nat) : Bool := pB s i && decide (s (13 * i + 4) = 0)
def cB (s : Nat → Int32) (i : Nat) : Bool := pB s i && (decide (0 < i) && decide (s (13 * i + 2) = 0))
theorem vers5 : o_X7_versions S 5 ∧ f_X7_versions S 5 = nI (cntB (nB (S.2 0)) 24) := by
  have n50 : ¬ (5 : Int32) = 0 := by decide
  have n51 : ¬ (5 : Int32) = 1 := by decide
  refine vers_loop (fun m i x q => ?_)
  rw [ol_X7_versions_4, l_X7_versions_4, if_pos q, cl0 q, cl3 q, cl4 q, if_neg n50, if_neg n51, if_pos (show (5 : Int32) = 5 from rfl)]
  by_cases c : S.2 0 (13 * i) = 1
  · by_cases d : S.2 0 (13 * i + 4) = 0
    · have t : nB (S.2 0) i = true := by unfold nB; rw [(pB_if q).mpr c]; simp [d]
      rw [if_pos d, if_pos c, if_pos t]
      exact ⟨fun z => ⟨fun _ => ⟨fun k => absurd k n50, fun _ => ⟨fun k => absurd k n51, fun _ => ⟨fun _ => ⟨vi4 q, fun _ => ⟨vi0 q, fun _ => z, fun k => absurd c k⟩, fun k => absurd d k⟩, fun k => absurd rfl k⟩⟩⟩, fun k => absurd q k⟩, rfl⟩
    · have t : ¬ nB (S.2 0) i = true := by unfold nB; simp [d]
      rw [if_neg d, if_pos c, if_neg t]
      exact ⟨fun z => ⟨fun _ => ⟨fun k => absurd k n50, fun _ => ⟨fun k => absurd k n51, fun _ => ⟨fun _ => ⟨vi4 q, fun k => absurd k d, fun _ => ⟨vi0 q, fun _ => z, fun k => absurd c k⟩⟩, fun k => absurd rfl k⟩⟩⟩, fun k => absurd q k⟩, rfl⟩
  · have t : ¬ nB (S.2 0) i = true := fun k => c ((pB_if q).mp (Bool.and_eq_true_iff.mp k).1)
    by_cases d : S.2 0 (13 * i + 4) = 0
    · rw [if_pos d, if_neg c, if_neg t]
      exact ⟨fun z => ⟨fun _ => ⟨fun k => absurd k n50, fun _ => ⟨fun k => absurd k n51, fun _ => ⟨fun _ => ⟨vi4 q, fun _ => ⟨vi0 q, fun k => absurd k c, fun _ => z⟩, fun k => absurd d k⟩, fun k => absurd rfl k⟩⟩⟩, fun k => absurd q k⟩, rfl⟩
    · rw [if_neg d, if_neg c, if_neg t]
      exact ⟨fun z => ⟨fun _ => ⟨fun k => absurd k n50, fun _ => ⟨fun k => absurd k n51, fun _ => ⟨fun _ => ⟨vi4 q, fun k => absurd k d, fun _ => ⟨vi0 q, fun k => absurd k c, fun _ => z⟩⟩, fun k => absurd rfl k⟩⟩⟩, fun k => absurd q k⟩, rfl⟩
theorem never_n (R : RS N (S.2 0)) : f_X5_neverAsked N = f_X7_versions S 5 := by
  rw [vers5.2]
  have key : ∀ (m i : Nat), i ≤ 24 → i + m = 25 → l_X5_neverAsked_4 N m (cntB (nB (S.2 0)) i) i = nI (cntB (nB (S.2 0)) 24) := by
    intro m
    induction m with
    | zero => intro i h1 h2; omega
    | succ m ih =>
      intro i h1 h2
      rw [l_X5_neverAsked_4]
      by_cases q : i < 24
      · have k := ih (i + 1) (by omega) (by omega)
        rw [cntB] at k
        rw [if_pos q, has_n R q]
        by_cases c : pB (S.2 0) i = true
        · rw [if_pos c, asked_n R (pB_iff.mp c)]
          by_cases d : S.2 0 (13 * i + 4) = 0
          · rw [if_pos (show nB (S.2 0) i = true by unfold nB; simp [c, d])] at k
            rw [if_pos d]; exact k
          · rw [if_neg (show ¬ nB (S.2 0) i = true by unfold nB; simp [d])] at k
            rw [if_neg d]; exact k
        · rw [if_neg (show ¬ nB (S.2 0) i = true from fun k => c (Bool.and_eq_true_iff.mp k).1)] at k
          rw [if_neg c]; exact k
      · have : i = 24 := by omega
        subst this
        rw [if_neg q]
        rfl
  exact key 25 0 (by decide) (by decide)
end NEV
