/-! PURE PART. the reference reads an order, from its first letter on -/
section LTR
variable {t : Nat → Nat} {L : Nat}
def cW (t : Nat → Nat) (L : Nat) (f : Nat → Nat) (p : Nat) : Nat → Bool × Nat
  | 0 => (false, p)
  | k + 1 => (sW t L (cW t L f p k).1 (cW t L f p k).2 (f k), sP t L (cW t L f p k).1 (cW t L f p k).2 (f k))
theorem cW_le {f : Nat → Nat} {p : Nat} (hp : p ≤ L) : ∀ k, (cW t L f p k).2 ≤ L
  | 0 => hp
  | k + 1 => sP_le (cW_le hp k)
theorem cW_n (f : Nat → Nat) (p r : Nat) : (cW t L f p r).1 = !decide (al t L f p r 0 = r) ∧ (cW t L f p r).2 = p + al t L f p r 0 := by
  have h := ch_al (t := t) (L := L) f p r 0 (fun k => (cW t L f p k).1) (fun k => (cW t L f p k).2) rfl rfl (fun k _ _ => ⟨rfl, rfl⟩)
  rw [Nat.zero_add] at h
  exact h
theorem cst {S Y : CS} {f : Nat → Nat} {p k : Nat} (hx : RX t L S) (hL : L ≤ 80) (ht : ∀ i, t i < 65536) (hp : p ≤ L) (hc : f k < 2 ^ 31) (s : SG S Y (cW t L f p k).1 (cW t L f p k).2) : o_X7_sign Y (nI (f k)) ∧ SG S (f_X7_sign Y (nI (f k))) (cW t L f p (k + 1)).1 (cW t L f p (k + 1)).2 := by
  obtain ⟨o, z⟩ := sign_r (c := f k) (s.rx hx) hL ht (cW_le hp k) hc s.2.2.1 s.2.2.2
  exact ⟨o, s.trans z⟩
def ltr (w : Nat) : Nat := if w = 0 then 109 else if w = 1 then 105 else if w = 2 then 97 else if w = 3 then 114 else 106
theorem OD_w {p : Nat} (h : (OD t L p).1 = true) : (WD t L p).1 ≠ 5 ∧ (OD t L p).2.2.1 = (WD t L p).1 := by
  unfold OD at *
  by_cases x5 : (WD t L p).1 = 5
  · rw [if_pos x5] at h
    cases h
  rw [if_neg x5] at h ⊢
  refine ⟨x5, ?_⟩
  by_cases x0 : (WD t L p).1 = 0
  · rw [if_pos x0, x0]
    split
    · split <;> rfl
    · rfl
  rw [if_neg x0]
  by_cases x1 : (WD t L p).1 = 1
  · rw [if_pos x1, x1]
    split
    · split <;> rfl
    · rfl
  rw [if_neg x1]
theorem ord28 {S Y : CS} {p l0 : Nat} (g : G4 S Y) (hx : RX t L Y) (hL : L ≤ 80) (ht : ∀ i, t i < 65536) (hp : p ≤ L) (e : Y.1 13 = nI p) (ew : Y.1 14 = bI false) (el : Y.1 15 = nI l0) (hl : ∀ c, 0 < c → c < 65536 → (nI l0 = nI c ↔ tq t L p c = true)) : oj_X7_order_28 Y ∧ ∃ lt, OUT t L S (j_X7_order_28 Y) p lt ∧ ((OD t L p).1 = true → lt = ltr (OD t L p).2.2.1) := by
  have s0 : ∀ f, SG Y Y (cW t L f p 0).1 (cW t L f p 0).2 := fun f => sg_r e ew
  have l97 : nI l0 = 97 ↔ tq t L p 97 = true := hl 97 (by decide) (by decide)
  have l106 : nI l0 = 106 ↔ tq t L p 106 = true := hl 106 (by decide) (by decide)
  have l114 : nI l0 = 114 ↔ tq t L p 114 = true := hl 114 (by decide) (by decide)
  unfold oj_X7_order_28 j_X7_order_28 o_X7_signs f_X7_signs
  simp only [bind1]
  rw [el]
  by_cases ca : tq t L p 97 = true
  · have h := l97.mpr ca
    rw [if_pos h]
    obtain ⟨o1, s1⟩ := cst (f := wc 2) (k := 0) hx hL ht hp (by decide) (s0 _)
    have o1 : o_X7_sign Y 97 := o1
    have s1 : SG Y (f_X7_sign Y 97) _ _ := s1
    generalize f_X7_sign Y 97 = Y1 at *
    obtain ⟨o2, s2⟩ := cst (f := wc 2) (k := 1) hx hL ht hp (by decide) s1
    have o2 : o_X7_sign Y1 115 := o2
    have s2 : SG Y (f_X7_sign Y1 115) _ _ := s2
    generalize f_X7_sign Y1 115 = Y2 at *
    obtain ⟨o3, s3⟩ := cst (f := wc 2) (k := 2) hx hL ht hp (by decide) s2
    have o3 : o_X7_sign Y2 107 := o3
    have s3 : SG Y (f_X7_sign Y2 107) _ _ := s3
    generalize f_X7_sign Y2 107 = Y3 at *
    have c3 := cW_n (t := t) (L := L) (wc 2) p 3
    have q3 := cW_le (t := t) (f := wc 2) hp 3
    rw [c3.1, c3.2] at s3
    rw [c3.2] at q3
    have wd := WD_a ca
    have wd : WD t L p = if al t L (wc 2) p 3 0 = 3 then (2, p + 3) else (5, p + al t L (wc 2) p 3 0) := wd
    have l15 : Y3.1 15 = nI 97 := (s3.1 15 (by decide) (by decide)).trans (el.trans h)
    have hw : p + al t L (wc 2) p 3 0 = q0 t L p ∧ (((!decide (al t L (wc 2) p 3 0 = 3)) = true ∧ (WD t L p).1 = 5) ∨ ((!decide (al t L (wc 2) p 3 0 = 3)) = false ∧ (WD t L p).1 ≠ 5 ∧ (WD t L p).1 ≠ 0 ∧ (WD t L p).1 ≠ 1)) := by
      unfold q0
      rw [wd]
      by_cases k : al t L (wc 2) p 3 0 = 3
      · rw [if_pos k, k]
        exact ⟨rfl, Or.inr ⟨by decide, (show (2 : Nat) ≠ 5 by decide), (show (2 : Nat) ≠ 0 by decide), (show (2 : Nat) ≠ 1 by decide)⟩⟩
      · rw [if_neg k, decide_eq_false k]
        exact ⟨rfl, Or.inl ⟨rfl, rfl⟩⟩
    obtain ⟨oo, ou⟩ := out_o (p := p) (g.trans s3.g4) (s3.rx hx) hL ht q3 s3.2.2.1 s3.2.2.2 l15 (by decide) (by decide) hw
    refine ⟨⟨fun _ => ⟨⟨o1, o2, o3, trivial⟩, oo⟩, fun k => absurd h k⟩, 97, ou, fun k => ?_⟩
    obtain ⟨k1, k2⟩ := OD_w k
    rw [k2]
    rw [wd] at k1 ⊢
    by_cases x : al t L (wc 2) p 3 0 = 3
    · rw [if_pos x]; rfl
    · rw [if_neg x] at k1
      exact absurd rfl k1
  have na : ¬ nI l0 = 97 := fun k => ca (l97.mp k)
  rw [if_neg na]
  by_cases cj : tq t L p 106 = true
  · have h := l106.mpr cj
    rw [if_pos h]
    obtain ⟨o1, s1⟩ := cst (f := wc 4) (k := 0) hx hL ht hp (by decide) (s0 _)
    have o1 : o_X7_sign Y 106 := o1
    have s1 : SG Y (f_X7_sign Y 106) _ _ := s1
    generalize f_X7_sign Y 106 = Y1 at *
    obtain ⟨o2, s2⟩ := cst (f := wc 4) (k := 1) hx hL ht hp (by decide) s1
    have o2 : o_X7_sign Y1 111 := o2
    have s2 : SG Y (f_X7_sign Y1 111) _ _ := s2
    generalize f_X7_sign Y1 111 = Y2 at *
    obtain ⟨o3, s3⟩ := cst (f := wc 4) (k := 2) hx hL ht hp (by decide) s2
    have o3 : o_X7_sign Y2 105 := o3
    have s3 : SG Y (f_X7_sign Y2 105) _ _ := s3
    generalize f_X7_sign Y2 105 = Y3 at *
    obtain ⟨o4, s4⟩ := cst (f := wc 4) (k := 3) hx hL ht hp (by decide) s3
    have o4 : o_X7_sign Y3 110 := o4
    have s4 : SG Y (f_X7_sign Y3 110) _ _ := s4
    generalize f_X7_sign Y3 110 = Y4 at *
    have c4 := cW_n (t := t) (L := L) (wc 4) p 4
    have q4 := cW_le (t := t) (f := wc 4) hp 4
    rw [c4.1, c4.2] at s4
    rw [c4.2] at q4
    have wd := WD_j cj
    have wd : WD t L p = if al t L (wc 4) p 4 0 = 4 then (4, p + 4) else (5, p + al t L (wc 4) p 4 0) := wd
    have l15 : Y4.1 15 = nI 106 := (s4.1 15 (by decide) (by decide)).trans (el.trans h)
    have hw : p + al t L (wc 4) p 4 0 = q0 t L p ∧ (((!decide (al t L (wc 4) p 4 0 = 4)) = true ∧ (WD t L p).1 = 5) ∨ ((!decide (al t L (wc 4) p 4 0 = 4)) = false ∧ (WD t L p).1 ≠ 5 ∧ (WD t L p).1 ≠ 0 ∧ (WD t L p).1 ≠ 1)) := by
      unfold q0
      rw [wd]
      by_cases k : al t L (wc 4) p 4 0 = 4
      · rw [if_pos k, k]
        exact ⟨rfl, Or.inr ⟨by decide, (show (4 : Nat) ≠ 5 by decide), (show (4 : Nat) ≠ 0 by decide), (show (4 : Nat) ≠ 1 by decide)⟩⟩
      · rw [if_neg k, decide_eq_false k]
        exact ⟨rfl, Or.inl ⟨rfl, rfl⟩⟩
    obtain ⟨oo, ou⟩ := out_o (p := p) (g.trans s4.g4) (s4.rx hx) hL ht q4 s4.2.2.1 s4.2.2.2 l15 (by decide) (by decide) hw
    refine ⟨⟨fun k => absurd k na, fun _ => ⟨fun _ => ⟨⟨o1, o2, o3, trivial⟩, o4, oo⟩, fun k => absurd h k⟩⟩, 106, ou, fun k => ?_⟩
    obtain ⟨k1, k2⟩ := OD_w k
    rw [k2]
    rw [wd] at k1 ⊢
    by_cases x : al t L (wc 4) p 4 0 = 4
    · rw [if_pos x]; rfl
    · rw [if_neg x] at k1
      exact absurd rfl k1
  have nj : ¬ nI l0 = 106 := fun k => cj (l106.mp k)
  rw [if_neg nj]
  by_cases cr : tq t L p 114 = true
  · have h := l114.mpr cr
    rw [if_pos h]
    obtain ⟨o1, s1⟩ := cst (f := wc 3) (k := 0) hx hL ht hp (by decide) (s0 _)
    have o1 : o_X7_sign Y 114 := o1
    have s1 : SG Y (f_X7_sign Y 114) _ _ := s1
    generalize f_X7_sign Y 114 = Y1 at *
    obtain ⟨o2, s2⟩ := cst (f := wc 3) (k := 1) hx hL ht hp (by decide) s1
    have o2 : o_X7_sign Y1 111 := o2
    have s2 : SG Y (f_X7_sign Y1 111) _ _ := s2
    generalize f_X7_sign Y1 111 = Y2 at *
    obtain ⟨o3, s3⟩ := cst (f := wc 3) (k := 2) hx hL ht hp (by decide) s2
    have o3 : o_X7_sign Y2 111 := o3
    have s3 : SG Y (f_X7_sign Y2 111) _ _ := s3
    generalize f_X7_sign Y2 111 = Y3 at *
    obtain ⟨o4, s4⟩ := cst (f := wc 3) (k := 3) hx hL ht hp (by decide) s3
    have o4 : o_X7_sign Y3 116 := o4
    have s4 : SG Y (f_X7_sign Y3 116) _ _ := s4
    generalize f_X7_sign Y3 116 = Y4 at *
    have c4 := cW_n (t := t) (L := L) (wc 3) p 4
    have q4 := cW_le (t := t) (f := wc 3) hp 4
    rw [c4.1, c4.2] at s4
    rw [c4.2] at q4
    have wd := WD_r cr
    have wd : WD t L p = if al t L (wc 3) p 4 0 = 4 then (3, p + 4) else (5, p + al t L (wc 3) p 4 0) := wd
    have l15 : Y4.1 15 = nI 114 := (s4.1 15 (by decide) (by decide)).trans (el.trans h)
    have hw : p + al t L (wc 3) p 4 0 = q0 t L p ∧ (((!decide (al t L (wc 3) p 4 0 = 4)) = true ∧ (WD t L p).1 = 5) ∨ ((!decide (al t L (wc 3) p 4 0 = 4)) = false ∧ (WD t L p).1 ≠ 5 ∧ (WD t L p).1 ≠ 0 ∧ (WD t L p).1 ≠ 1)) := by
      unfold q0
      rw [wd]
      by_cases k : al t L (wc 3) p 4 0 = 4
      · rw [if_pos k, k]
        exact ⟨rfl, Or.inr ⟨by decide, (show (3 : Nat) ≠ 5 by decide), (show (3 : Nat) ≠ 0 by decide), (show (3 : Nat) ≠ 1 by decide)⟩⟩
      · rw [if_neg k, decide_eq_false k]
        exact ⟨rfl, Or.inl ⟨rfl, rfl⟩⟩
    obtain ⟨oo, ou⟩ := out_o (p := p) (g.trans s4.g4) (s4.rx hx) hL ht q4 s4.2.2.1 s4.2.2.2 l15 (by decide) (by decide) hw
    refine ⟨⟨fun k => absurd k na, fun _ => ⟨fun k => absurd k nj, fun _ => ⟨fun _ => ⟨⟨o1, o2, o3, trivial⟩, o4, oo⟩, fun k => absurd h k⟩⟩⟩, 114, ou, fun k => ?_⟩
    obtain ⟨k1, k2⟩ := OD_w k
    rw [k2]
    rw [wd] at k1 ⊢
    by_cases x : al t L (wc 3) p 4 0 = 4
    · rw [if_pos x]; rfl
    · rw [if_neg x] at k1
      exact absurd rfl k1
  have nr : ¬ nI l0 = 114 := fun k => cr (l114.mp k)
  rw [if_neg nr]
  obtain ⟨o1, s1⟩ := cst (f := wc 0) (k := 0) hx hL ht hp (by decide) (s0 _)
  have o1 : o_X7_sign Y 109 := o1
  have s1 : SG Y (f_X7_sign Y 109) (sW t L false p 109) (sP t L false p 109) := s1
  generalize f_X7_sign Y 109 = Y1 at *
  have h1 := s1.rx hx
  obtain ⟨on, xn⟩ := nxt_n (a := 105) (b := 105) h1 hL ht (sP_le hp) (by decide) (by decide) s1.2.2.1 s1.2.2.2
  rw [show nI 105 = (105 : Int32) from rfl] at on xn
  by_cases ci : f_X7_isNext Y1 105 105 = true
  · obtain ⟨k1, k2, k3, k4⟩ := xn.mp ci
    have tm : tq t L p 109 = true := by
      by_cases x : tq t L p 109 = true
      · exact x
      · have x' : tq t L p 109 = false := by simpa using x
        unfold sW at k1
        rw [x'] at k1
        cases k1
    have eP' : sP t L false p 109 = p + 1 := by
      unfold sP
      rw [if_neg (by decide), if_pos tm]
    rw [eP'] at k2 k3 k4
    have ti : tq t L (p + 1) 105 = true := tq_i.mpr ⟨k2, by omega⟩
    rw [if_pos ci]
    have g2 : G4 Y (setI Y1 15 105) := s1.g4.set _ (by decide) (by decide)
    have s2 : SG (setI Y1 15 105) (setI Y1 15 105) (cW t L (wc 1) p 1).1 (cW t L (wc 1) p 1).2 := sg_r ((setI_n _ _ (by decide)).trans s1.2.2.1) ((setI_n _ _ (by decide)).trans s1.2.2.2)
    have h2 : RX t L (setI Y1 15 105) := g2.rx hx
    have e15 : (setI Y1 15 105).1 15 = 105 := setI_s _ _ _
    generalize setI Y1 15 105 = Y2 at *
    obtain ⟨o3, s3⟩ := cst (f := wc 1) (k := 1) h2 hL ht hp (by decide) s2
    have o3 : o_X7_sign Y2 105 := o3
    have s3 : SG Y2 (f_X7_sign Y2 105) _ _ := s3
    generalize f_X7_sign Y2 105 = Y3 at *
    have e15b : Y3.1 15 = 105 := (s3.1 15 (by decide) (by decide)).trans e15
    rw [if_pos e15b]
    obtain ⟨o4, s4⟩ := cst (f := wc 1) (k := 2) h2 hL ht hp (by decide) s3
    have o4 : o_X7_sign Y3 120 := o4
    have s4 : SG Y2 (f_X7_sign Y3 120) _ _ := s4
    generalize f_X7_sign Y3 120 = Y4 at *
    have e15c : Y4.1 15 = nI 105 := (s4.1 15 (by decide) (by decide)).trans e15
    have n15c : ¬ Y4.1 15 = 109 := by rw [e15c]; decide
    rw [if_neg n15c]
    have c4 := cW_n (t := t) (L := L) (wc 1) p 3
    have q4 := cW_le (t := t) (f := wc 1) hp 3
    rw [c4.1, c4.2] at s4
    rw [c4.2] at q4
    have wd : WD t L p = if al t L (wc 1) p 3 0 = 3 then (1, p + 3) else (5, p + al t L (wc 1) p 3 0) := WD_i tm ti
    have hw : p + al t L (wc 1) p 3 0 = q0 t L p ∧ (((!decide (al t L (wc 1) p 3 0 = 3)) = true ∧ (WD t L p).1 = 5) ∨ ((!decide (al t L (wc 1) p 3 0 = 3)) = false ∧ (WD t L p).1 = 1)) := by
      unfold q0
      rw [wd]
      by_cases k : al t L (wc 1) p 3 0 = 3
      · rw [if_pos k, k]
        exact ⟨rfl, Or.inr ⟨by decide, rfl⟩⟩
      · rw [if_neg k, decide_eq_false k]
        exact ⟨rfl, Or.inl ⟨rfl, rfl⟩⟩
    obtain ⟨oo, ou⟩ := out_i (p := p) ((g.trans g2).trans s4.g4) (s4.rx h2) hL ht q4 s4.2.2.1 s4.2.2.2 e15c hw
    refine ⟨⟨fun k => absurd k na, fun _ => ⟨fun k => absurd k nj, fun _ => ⟨fun k => absurd k nr, fun _ => ⟨o1, on, fun _ => ⟨o3, fun _ => ⟨o4, fun k => absurd k n15c, fun _ => oo⟩, fun k => absurd e15b k⟩, fun k => absurd ci k⟩⟩⟩⟩, 105, ou, fun k => ?_⟩
    obtain ⟨k1, k2⟩ := OD_w k
    rw [k2]
    rw [wd] at k1 ⊢
    by_cases x : al t L (wc 1) p 3 0 = 3
    · rw [if_pos x]; rfl
    · rw [if_neg x] at k1
      exact absurd rfl k1
  · have nmi : ¬ (tq t L p 109 = true ∧ tq t L (p + 1) 105 = true) := fun ⟨x, y⟩ => ci (xn.mpr (by
      have y := tq_i.mp y
      unfold sW sP
      rw [x, if_neg (by decide), if_pos rfl]
      exact ⟨rfl, y.1, by omega, by omega⟩))
    rw [if_neg ci]
    have g2 : G4 Y (setI Y1 15 109) := s1.g4.set _ (by decide) (by decide)
    have s2 : SG (setI Y1 15 109) (setI Y1 15 109) (cW t L (wc 0) p 1).1 (cW t L (wc 0) p 1).2 := sg_r ((setI_n _ _ (by decide)).trans s1.2.2.1) ((setI_n _ _ (by decide)).trans s1.2.2.2)
    have h2 : RX t L (setI Y1 15 109) := g2.rx hx
    have e15 : (setI Y1 15 109).1 15 = 109 := setI_s _ _ _
    generalize setI Y1 15 109 = Y2 at *
    obtain ⟨o3, s3⟩ := cst (f := wc 0) (k := 1) h2 hL ht hp (by decide) s2
    have o3 : o_X7_sign Y2 97 := o3
    have s3 : SG Y2 (f_X7_sign Y2 97) _ _ := s3
    generalize f_X7_sign Y2 97 = Y3 at *
    have e15b : ¬ Y3.1 15 = 105 := by rw [(s3.1 15 (by decide) (by decide)).trans e15]; decide
    rw [if_neg e15b]
    obtain ⟨o4, s4⟩ := cst (f := wc 0) (k := 2) h2 hL ht hp (by decide) s3
    have o4 : o_X7_sign Y3 107 := o4
    have s4 : SG Y2 (f_X7_sign Y3 107) _ _ := s4
    generalize f_X7_sign Y3 107 = Y4 at *
    have e15c : Y4.1 15 = 109 := (s4.1 15 (by decide) (by decide)).trans e15
    rw [if_pos e15c]
    obtain ⟨o5, s5⟩ := cst (f := wc 0) (k := 3) h2 hL ht hp (by decide) s4
    have o5 : o_X7_sign Y4 101 := o5
    have s5 : SG Y2 (f_X7_sign Y4 101) _ _ := s5
    generalize f_X7_sign Y4 101 = Y5 at *
    have e15d : Y5.1 15 = nI 109 := (s5.1 15 (by decide) (by decide)).trans e15
    have c4 := cW_n (t := t) (L := L) (wc 0) p 4
    have q4 := cW_le (t := t) (f := wc 0) hp 4
    rw [c4.1, c4.2] at s5
    rw [c4.2] at q4
    have wd : WD t L p = if al t L (wc 0) p 4 0 = 4 then (0, p + 4) else (5, p + al t L (wc 0) p 4 0) := WD_m ca cr cj nmi
    have hw : p + al t L (wc 0) p 4 0 = q0 t L p ∧ (((!decide (al t L (wc 0) p 4 0 = 4)) = true ∧ (WD t L p).1 = 5) ∨ ((!decide (al t L (wc 0) p 4 0 = 4)) = false ∧ (WD t L p).1 = 0)) := by
      unfold q0
      rw [wd]
      by_cases k : al t L (wc 0) p 4 0 = 4
      · rw [if_pos k, k]
        exact ⟨rfl, Or.inr ⟨by decide, rfl⟩⟩
      · rw [if_neg k, decide_eq_false k]
        exact ⟨rfl, Or.inl ⟨rfl, rfl⟩⟩
    obtain ⟨oo, ou⟩ := out_m (p := p) ((g.trans g2).trans s5.g4) (s5.rx h2) hL ht q4 s5.2.2.1 s5.2.2.2 e15d hw
    refine ⟨⟨fun k => absurd k na, fun _ => ⟨fun k => absurd k nj, fun _ => ⟨fun k => absurd k nr, fun _ => ⟨o1, on, fun k => absurd k ci, fun _ => ⟨o3, fun k => absurd k e15b, fun _ => ⟨o4, fun _ => ⟨o5, oo⟩, fun k => absurd e15c k⟩⟩⟩⟩⟩⟩, 109, ou, fun k => ?_⟩
    obtain ⟨k1, k2⟩ := OD_w k
    rw [k2]
    rw [wd] at k1 ⊢
    by_cases x : al t L (wc 0) p 4 0 = 4
    · rw [if_pos x]; rfl
    · rw [if_neg x] at k1
      exact absurd rfl k1
theorem order_r {S : CS} {p : Nat} (hx : RX t L S) (hL : L ≤ 80) (ht : ∀ i, t i < 65536) (hp : p ≤ L) (e : S.1 13 = nI p) (ew : S.1 14 = 0) : o_X7_order S ∧ ∃ lt, OUT t L S (f_X7_order S) p lt ∧ ((OD t L p).1 = true → lt = ltr (OD t L p).2.2.1) := by
  have tp := ht p
  have q : nI p < nI L ↔ p < L := nI_ltI (by omega) (by omega)
  have gg : ∀ v, G4 S (setI S 15 v) := fun v => (show G4 S S from ⟨fun _ _ => rfl, rfl⟩).set v (by decide) (by decide)
  unfold o_X7_order f_X7_order
  simp only [bind1]
  rw [e, hx.1, nI_clamp (by omega)]
  by_cases c : p < L
  · have hl : ∀ d, 0 < d → d < 65536 → (nI (t p) = nI d ↔ tq t L p d = true) := fun d h1 h2 => by
      rw [nI_eq (by omega) (by omega), tq_i]
      exact ⟨fun k => ⟨c, k⟩, fun k => k.2⟩
    obtain ⟨a, b⟩ := ord28 (l0 := t p) (gg _) ((gg (S.2 6 p)).rx hx) hL ht hp ((setI_n _ _ (by decide)).trans e) ((setI_n _ _ (by decide)).trans ew) ((setI_s _ _ _).trans (hx.2 p c)) hl
    rw [if_pos (q.mpr c)]
    exact ⟨⟨fun _ => ⟨vp_in_nI (by omega) (by decide), a⟩, fun k => absurd (q.mpr c) k⟩, b⟩
  · have hl : ∀ d, 0 < d → d < 65536 → (nI 0 = nI d ↔ tq t L p d = true) := fun d h1 h2 => by
      rw [nI_eq (by omega) (by omega), tq_i]
      exact ⟨fun k => by omega, fun k => absurd k.1 c⟩
    obtain ⟨a, b⟩ := ord28 (l0 := 0) (gg _) ((gg 0).rx hx) hL ht hp ((setI_n _ _ (by decide)).trans e) ((setI_n _ _ (by decide)).trans ew) (setI_s _ _ _) hl
    rw [if_neg (fun k => c (q.mp k))]
    exact ⟨⟨fun k => absurd (q.mp k) c, fun _ => a⟩, b⟩
end LTR
