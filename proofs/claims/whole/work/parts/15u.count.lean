/-! PURE PART. count -/
theorem sim_count (M : CS) (N : CS) (F : CS) (P : CS) (Q : HS) (E : CS) (O : CS) (S : CS) (n : Nat) (a1 : Int32) (h : REL M N F P Q E O S n) (hn : n < 512) : True ∧ (o_X7_count S a1) ∧ (f_X6_count M N Q E O a1).1 = (f_X7_count S a1).1 ∧ REL M N F P Q ((f_X6_count M N Q E O a1).2) O ((f_X7_count S a1).2) (n + 1) := by
  have K := h.1
  have R := K.2.2.1
  have W := K.1
  obtain ⟨k, -, hq, hs, -⟩ := h.2.1
  obtain ⟨L, -, t1, t2, -⟩ := h.2.2.2.2
  obtain ⟨l1, -, l3⟩ := long7 K
  have num : ∀ j, 7 ≤ j → j ≤ 12 → N.1 j = S.2 0 (305 + j) := R.2.2.2.2.2.2
  have fin : ∀ E', REL M N F P Q E' O S (n + 1) := fun E' => rel_sw (rel_mono h) (sw.rf S)
  refine ⟨trivial, ⟨fun e => ⟨by rw [e]; exact vers0.1, trivial⟩, fun _ => ⟨fun e => ⟨by rw [e]; exact vers1.1, trivial⟩, fun _ => ⟨fun _ => ⟨(room7 K).1, trivial⟩, fun _ => ⟨fun _ => trivial, fun _ => ⟨fun _ => trivial, fun _ => ⟨fun e => ⟨by rw [e]; exact vers5.1, trivial⟩, fun _ => ⟨fun e => ⟨by rw [e]; exact vers6.1, trivial⟩, fun _ => ⟨fun _ => ⟨l1, trivial⟩, fun _ => ⟨fun _ => trivial, fun _ => ⟨fun _ => trivial, fun _ => ⟨fun e => ⟨by rw [e]; exact pk_in 312 318 (by decide) (by decide), trivial⟩, fun _ => ⟨fun e => ⟨by rw [e]; exact pk_in 313 318 (by decide) (by decide), trivial⟩, fun _ => ⟨fun _ => ⟨(rows7 W).1, trivial⟩, fun _ => ⟨fun _ => trivial, fun _ => ⟨fun _ => trivial, fun _ => trivial⟩⟩⟩⟩⟩⟩⟩⟩⟩⟩⟩⟩⟩⟩⟩, ?_⟩
  by_cases c0 : a1 = 0
  · subst c0; exact ⟨many_n R, fin _⟩
  by_cases c1 : a1 = 1
  · subst c1; exact ⟨trees_n R, fin _⟩
  by_cases c2 : a1 = 2
  · subst c2; exact ⟨(room6 K).trans (room7 K).2.symm, fin _⟩
  by_cases c3 : a1 = 3
  · subst c3; exact ⟨num 9 (by decide) (by decide), fin _⟩
  by_cases c4 : a1 = 4
  · subst c4; exact ⟨num 10 (by decide) (by decide), fin _⟩
  by_cases c5 : a1 = 5
  · subst c5; exact ⟨never_n R, fin _⟩
  by_cases c6 : a1 = 6
  · subst c6; exact ⟨cuts_n K, fin _⟩
  by_cases c7 : a1 = 7
  · subst c7; exact ⟨long_n K M E, rel_sw (rel_mono h) l3⟩
  by_cases c8 : a1 = 8
  · subst c8; exact ⟨num 11 (by decide) (by decide), fin _⟩
  by_cases c9 : a1 = 9
  · subst c9; exact ⟨num 12 (by decide) (by decide), fin _⟩
  by_cases c10 : a1 = 10
  · subst c10; exact ⟨num 7 (by decide) (by decide), fin _⟩
  by_cases c11 : a1 = 11
  · subst c11; exact ⟨num 8 (by decide) (by decide), fin _⟩
  by_cases c12 : a1 = 12
  · subst c12; exact ⟨(rows6 R).trans (rows7 W).2.symm, fin _⟩
  by_cases c13 : a1 = 13
  · subst c13; exact ⟨hq.trans hs.symm, fin _⟩
  by_cases c14 : a1 = 14
  · subst c14; exact ⟨t1.trans t2.symm, fin _⟩
  unfold f_X6_count f_X7_count
  simp only [if_neg c0, if_neg c1, if_neg c2, if_neg c3, if_neg c4, if_neg c5, if_neg c6, if_neg c7, if_neg c8, if_neg c9, if_neg c10, if_neg c11, if_neg c12, if_neg c13, if_neg c14]
  exact ⟨trivial, fin _⟩
