/-! PURE PART. isSo, its loop -/
section ISSO2
variable {N : CS} {s : Nat → Int32} {n : Nat}
def MX (s : Nat → Int32) (i mx : Nat) : Prop := mx ≤ 23 ∧ (∀ u w, u < i → rP s u → RO s u w → yD s w u ≤ mx) ∧ (mx = 0 ∨ ∃ u w, rP s u ∧ RO s u w ∧ yD s w u = mx)
theorem MX.all {mx : Nat} (h : MX s 24 mx) : MXP s (fun _ _ => True) mx := by
  obtain ⟨h1, h2, h3⟩ := h
  refine ⟨h1, fun w u hw hu _ => ?_, ?_⟩
  · have := h2 u w hu.1.1 hu.1 ⟨hw, hu.2.symm⟩
    rw [show yD s u w = yD s w u from DD_comm _ _ _ _]
    exact this
  · rcases h3 with z | ⟨u, w, hu, a, e⟩
    · exact Or.inl z
    · refine Or.inr ⟨w, u, a.1, ⟨hu, a.2.symm⟩, trivial, ?_⟩
      rw [show yD s u w = yD s w u from DD_comm _ _ _ _]
      exact e
theorem cnt7' (h : OKS N s n) {mx : Nat} (hm : MX s 24 mx) (M : CS) (Q : HS) (E O : CS) : (f_X6_count M N Q E O 7).1 = nI mx := by
  obtain ⟨r, h1, h2⟩ := cnt7 h (M := M) (E := E) (O := O) (Q := Q)
  rw [h1, h2.uniq (fun _ _ _ _ => Iff.rfl) hm.all]
theorem cstep (p : Nat → Bool) (i : Nat) {c : Prop} [Decidable c] (e : p i = true ↔ c) : nI (cntB p i) + (if c then 1 else 0) = nI (cntB p (i + 1)) := by
  rw [cntB]
  by_cases d : c
  · rw [if_pos d, if_pos (e.mpr d)]
    exact nI_1 _
  · rw [if_neg d, if_neg (fun z => d (e.mp z))]
    exact nI_add _ 0
theorem cnone {p : Nat → Bool} {i : Nat} (e : p i = false) : cntB p (i + 1) = cntB p i := by
  rw [cntB, e]
  rfl
set_option maxHeartbeats 16000000 in
theorem isSo_end (h : OKS N s n) (g : GD s n) (hn : n ≤ 1000) {mx : Nat} (hm : MX s 24 mx) (M O : CS) (Q : HS) (E : CS) : (k_L_isSo_390 M N Q O E (nI (cntB (pB s) 24)) (nI (cntB (tB s) 24)) (nI (cntB (kB s) 24)) (nI (cntB (cB s) 24)) (nI (SM (gw s) 24)) (nI (SM (aK s) 24)) (nI (cntB (nB s) 24)) (nI mx) 1).1 = true := by
  obtain ⟨g1, a, c, f1, f2, g2, g3, g4, g5⟩ := g
  have n10 : ¬ (1 : Int32) = 0 := by decide
  have rk : nI (cntB (tB s) 24) + nI (cntB (kB s) 24) = nI (cntB (pB s) 24) := by rw [nI_add, roots_kept h.1 h.2.1]
  have l1 : ¬ nI a < nI (SM (aK s) 24) := nI_nlt g5 (by omega)
  have l2 : ¬ nI c < nI a := nI_nlt g3 (by omega)
  have c7 := cnt7' h hm M Q
  simp only [k_L_isSo_390, bind1, cnt0 h, cnt1 h, cnt2 h, cnt3 h, cnt4 h, cnt5 h, cnt6 h, c7, f1, f2, rk, l1, l2, n10, ↓reduceIte, if_false, if_true]
set_option maxHeartbeats 16000000 in
theorem isSo_loop (h : OKS N s n) (g : GD s n) (hn : n ≤ 1000) (M O : CS) (Q : HS) : ∀ (m i : Nat), i ≤ 24 → i + m = 25 → ∀ (E : CS) (mx : Nat), MX s i mx → (l_L_isSo_27 M N Q O m E (nI (cntB (pB s) i)) i (nI (cntB (tB s) i)) (nI (cntB (kB s) i)) (nI (cntB (cB s) i)) (nI (SM (gw s) i)) (nI (SM (aK s) i)) (nI (cntB (nB s) i)) (nI mx) 1).1 = true := by
  intro m
  induction m with
  | zero => intro i h1 h2; omega
  | succ m ih =>
    intro i h1 h2 E mx hm
    by_cases q : i < 24
    · by_cases hi : rP s i
      · obtain ⟨w, a⟩ := RO.ex h hi
        have pb := pB_iff.mpr hi
        have dl : yD s w i ≤ 23 := DD_le h.1.tr a.1.1 hi a.2
        have m23 := hm.1
        refine isSo_step h hi a M O Q m E (fun E' => ?_)
        have k := ih (i + 1) (by omega) (by omega) E' (if mx < yD s w i then yD s w i else mx) ⟨by split <;> omega, fun u w' hu hP hR => ?_, ?_⟩
        · have tb : tB s i = true ↔ w = i := by
            rw [tB_iff]
            exact ⟨fun z => h.2.1.2.2.1 w i a.1 z a.2, fun z => z ▸ a.1⟩
          have kb : kB s i = true ↔ rH s i = true := by
            unfold kB
            rw [pb]
            simp
          have cb : cB s i = true ↔ (0 < i ∧ ¬ rH s i = true) := by
            unfold cB rH
            rw [pb]
            by_cases i0 : 0 < i
            · rcases h.2.1.1 i i0 hi with z | z
              · simp [i0, z]
              · simp [i0, z]
            · simp [i0]
          have nb : nB s i = true ↔ s (13 * i + 4) = 0 := by
            unfold nB
            rw [pb]
            simp
          obtain ⟨k4, k5, e4⟩ := h.2.2.2 i hi
          have e1 : nI (cntB (pB s) i) + 1 = nI (cntB (pB s) (i + 1)) := by
            rw [cntB, pb]
            exact nI_1 _
          have e5 : nI (SM (gw s) i) + ((if w = i then 8 else 0) + if rH s i = true then 1 + 2 * nI (rW s i) else 0) = nI (SM (gw s) (i + 1)) := by
            show _ = nI (SM (gw s) i + ((if tB s i = true then 8 else 0) + kw s i))
            have x1 : (if w = i then (8 : Int32) else 0) = nI (if tB s i = true then 8 else 0) := by
              by_cases c : w = i
              · rw [if_pos c, if_pos (tb.mpr c)]
                rfl
              · rw [if_neg c, if_neg (fun z => c (tb.mp z))]
                rfl
            have x2 : (if rH s i = true then 1 + 2 * nI (rW s i) else 0) = nI (kw s i) := by
              unfold kw
              rw [pb]
              by_cases c : rH s i = true
              · rw [if_pos c, if_pos (by rw [c]; rfl), show (2 : Int32) = nI 2 from rfl, pk_mul]
                exact nI_add 1 _
              · rw [if_neg c, if_neg (by simpa using c)]
                rfl
            rw [x1, x2, nI_add, nI_add]
          have e6 : nI (SM (aK s) i) + s (13 * i + 4) = nI (SM (aK s) (i + 1)) := by
            show _ = nI (SM (aK s) i + aK s i)
            unfold aK
            rw [if_pos pb, e4]
            rw [nI_clamp (by omega), nI_add]
          have e8 : (if nI mx < nI (yD s w i) then nI (yD s w i) else nI mx) = nI (if mx < yD s w i then yD s w i else mx) := by
            by_cases c : mx < yD s w i
            · rw [if_pos c, if_pos ((nI_ltI (by omega) (by omega)).mpr c)]
            · rw [if_neg c, if_neg (fun z => c ((nI_ltI (by omega) (by omega)).mp z))]
          rw [e1, cstep (tB s) i tb, cstep (kB s) i kb, cstep (cB s) i cb, e5, e6, cstep (nB s) i nb, e8]
          exact k
        · by_cases z : u = i
          · subst z
            have := RO.uq h a hR
            subst this
            split <;> omega
          · have := hm.2.1 u w' (by omega) hP hR
            split <;> omega
        · split
          · exact Or.inr ⟨i, w, hi, a, rfl⟩
          · exact hm.2.2
      · have pb : pB s i = false := by
          cases z : pB s i with
          | false => rfl
          | true => exact absurd (pB_iff.mp z) hi
        have k := ih (i + 1) (by omega) (by omega)
        rw [l_L_isSo_27, if_pos q]
        simp only [bind1, ver_no h q hi]
        rw [if_pos (show (-1 : Int32) < 0 by decide)]
        unfold j_L_isSo_384
        have k := k E mx ⟨hm.1, fun u w hu hP hR => hm.2.1 u w (by
          by_cases z : u = i
          · subst z; exact absurd hP hi
          · omega) hP hR, hm.2.2⟩
        rw [cnone pb, cnone (show tB s i = false by unfold tB; rw [pb]; rfl), cnone (show kB s i = false by unfold kB; rw [pb]; rfl), cnone (show cB s i = false by unfold cB; rw [pb]; rfl), cnone (show nB s i = false by unfold nB; rw [pb]; rfl), show SM (gw s) (i + 1) = SM (gw s) i from (by
          show SM (gw s) i + ((if tB s i = true then 8 else 0) + kw s i) = _
          unfold kw tB
          rw [pb]
          rfl), show SM (aK s) (i + 1) = SM (aK s) i from (by
          show SM (aK s) i + aK s i = _
          unfold aK
          rw [pb]
          rfl)] at k
        exact k
    · have : i = 24 := by omega
      subst this
      rw [l_L_isSo_27, if_neg q]
      exact isSo_end h g hn hm M O Q E
theorem isSo_n (h : OKS N s n) (g : GD s n) (hn : n ≤ 1000) (M E O : CS) (Q : HS) : (f_L_isSo M N Q E O).1 = true := isSo_loop h g hn M O Q 25 0 (by decide) (by decide) E 0 ⟨by decide, fun u w hu => absurd hu (Nat.not_lt_zero _), Or.inl rfl⟩
end ISSO2
