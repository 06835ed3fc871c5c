/-! PURE PART. the reference reads an order -/
section OFR
variable {t : Nat → Nat} {L : Nat}
def G4 (S Z : CS) : Prop := (∀ j, j < 13 ∨ 18 < j → Z.1 j = S.1 j) ∧ Z.2 = S.2
theorem G4.trans {S Z R : CS} (h : G4 S Z) (h2 : G4 Z R) : G4 S R := ⟨fun j a => (h2.1 j a).trans (h.1 j a), h2.2.trans h.2⟩
theorem G4.set {S Z : CS} (h : G4 S Z) {k : Nat} (v : Int32) (h1 : 13 ≤ k) (h2 : k ≤ 18) : G4 S (setI Z k v) := ⟨fun j a => (setI_n Z v (by omega)).trans (h.1 j a), h.2⟩
theorem SG.g4 {S Z : CS} {w : Bool} {p : Nat} (h : SG S Z w p) : G4 S Z := ⟨fun j a => h.1 j (by omega) (by omega), h.2.1⟩
theorem G4.rx {S Z : CS} (h : G4 S Z) (hx : RX t L S) : RX t L Z := ⟨(h.1 7 (by omega)).trans hx.1, fun i hi => by rw [h.2]; exact hx.2 i hi⟩
/-- one number, laid at j -/
theorem nst {S : CS} {p m j : Nat} {w : Bool} (hx : RX t L S) (hL : L ≤ 80) (ht : ∀ i, t i < 65536) (hm : m ≤ 30) (hp : p ≤ L) (h1 : 16 ≤ j) (h2 : j ≤ 18) (e : S.1 13 = nI p) (ew : S.1 14 = bI w) : o_X7_number S (nI m) ∧ G4 S (setI (f_X7_number S (nI m)).2 j (f_X7_number S (nI m)).1) ∧ (setI (f_X7_number S (nI m)).2 j (f_X7_number S (nI m)).1).1 13 = nI (nP t L w m p) ∧ (setI (f_X7_number S (nI m)).2 j (f_X7_number S (nI m)).1).1 14 = bI (nW t L w m p) ∧ (nW t L w m p = false → (setI (f_X7_number S (nI m)).2 j (f_X7_number S (nI m)).1).1 j = nI (NU t L m p).2.1) ∧ ∀ i, i ≠ 13 → i ≠ 14 → i ≠ j → (setI (f_X7_number S (nI m)).2 j (f_X7_number S (nI m)).1).1 i = S.1 i := by
  obtain ⟨o, s, v⟩ := number_r hx hL ht hm hp e ew
  exact ⟨o, s.g4.set _ (by omega) h2, (setI_n _ _ (by omega)).trans s.2.2.1, (setI_n _ _ (by omega)).trans s.2.2.2, fun k => (setI_s _ _ _).trans (v k), fun i a b c => (setI_n _ _ c).trans (s.1 i a b)⟩
/-- what is left behind an order -/
def OUT (t : Nat → Nat) (L : Nat) (S Z : CS) (p : Nat) (lt : Nat) : Prop := G4 S Z ∧ Z.1 13 = nI (OD t L p).2.1 ∧ Z.1 14 = bI (!(OD t L p).1) ∧ ((OD t L p).1 = true → Z.1 15 = nI lt ∧ Z.1 16 = (OD t L p).2.2.2.1 ∧ ((OD t L p).2.2.1 ≤ 1 → Z.1 17 = (OD t L p).2.2.2.2.1 ∧ Z.1 18 = (OD t L p).2.2.2.2.2))
theorem nW_t (m p : Nat) : nW t L true m p = true ∧ nP t L true m p = p := ⟨rfl, rfl⟩
theorem nW_f (m p : Nat) : nW t L false m p = !(NU t L m p).1 ∧ nP t L false m p = (NU t L m p).2.2 := ⟨rfl, rfl⟩
theorem out_5 {p : Nat} (h : (WD t L p).1 = 5) : OD t L p = (false, q0 t L p, 5, 0, 0, 0) := if_pos h
/-- a word alone and a number -/
theorem out_o {S Y : CS} {p q lt : Nat} {w : Bool} (g : G4 S Y) (hx : RX t L Y) (hL : L ≤ 80) (ht : ∀ i, t i < 65536) (hq : q ≤ L) (e : Y.1 13 = nI q) (ew : Y.1 14 = bI w) (el : Y.1 15 = nI lt) (n1 : ¬ nI lt = 109) (n2 : ¬ nI lt = 105) (hw : q = q0 t L p ∧ ((w = true ∧ (WD t L p).1 = 5) ∨ (w = false ∧ (WD t L p).1 ≠ 5 ∧ (WD t L p).1 ≠ 0 ∧ (WD t L p).1 ≠ 1))) : oj_X7_order_202 Y ∧ OUT t L S (j_X7_order_202 Y) p lt := by
  obtain ⟨o1, g1, a1, b1, v1, r1⟩ := nst hx hL ht (m := 23) (j := 16) (by decide) hq (by decide) (by decide) e ew
  rw [show nI 23 = (23 : Int32) from rfl] at o1 g1 a1 b1 v1 r1
  unfold oj_X7_order_202 j_X7_order_202
  simp only [bind1]
  generalize setI (f_X7_number Y 23).2 16 (f_X7_number Y 23).1 = Z at *
  have l15 : Z.1 15 = nI lt := (r1 15 (by decide) (by decide) (by decide)).trans el
  rw [l15, if_neg n1, if_neg n2]
  refine ⟨⟨o1, fun k => absurd k n1, fun _ => ⟨fun k => absurd k n2, fun _ => trivial⟩⟩, g.trans g1, ?_⟩
  obtain ⟨hq, hw⟩ := hw
  subst hq
  rcases hw with ⟨rfl, h5⟩ | ⟨rfl, h5, h0, h1⟩
  · rw [out_5 h5]
    exact ⟨a1, b1, fun k => (by cases k)⟩
  · have eo : OD t L p = ((NU t L 23 (q0 t L p)).1, q1 t L p, (WD t L p).1, nI (NU t L 23 (q0 t L p)).2.1, 0, 0) := by
      unfold OD
      rw [if_neg h5, if_neg h0, if_neg h1]
    rw [eo]
    refine ⟨a1, b1, fun k => ⟨l15, v1 ?_, fun z => ?_⟩⟩
    · unfold nW
      have k : (NU t L 23 (q0 t L p)).1 = true := k
      rw [k]
      rfl
    · have z : (WD t L p).1 ≤ 1 := z
      omega
theorem out_m {S Y : CS} {p q : Nat} {w : Bool} (g : G4 S Y) (hx : RX t L Y) (hL : L ≤ 80) (ht : ∀ i, t i < 65536) (hq : q ≤ L) (e : Y.1 13 = nI q) (ew : Y.1 14 = bI w) (el : Y.1 15 = nI 109) (hw : q = q0 t L p ∧ ((w = true ∧ (WD t L p).1 = 5) ∨ (w = false ∧ (WD t L p).1 = 0))) : oj_X7_order_202 Y ∧ OUT t L S (j_X7_order_202 Y) p 109 := by
  obtain ⟨o1, g1, a1, b1, v1, r1⟩ := nst hx hL ht (m := 23) (j := 16) (by decide) hq (by decide) (by decide) e ew
  rw [show nI 23 = (23 : Int32) from rfl] at o1 g1 a1 b1 v1 r1
  unfold oj_X7_order_202 j_X7_order_202
  simp only [bind1]
  generalize setI (f_X7_number Y 23).2 16 (f_X7_number Y 23).1 = Z at *
  have l15 : Z.1 15 = 109 := (r1 15 (by decide) (by decide) (by decide)).trans el
  have hZ := g1.rx hx
  have p1 : nP t L w 23 q ≤ L := nP_le hq
  obtain ⟨o2, g2, a2, b2, v2, r2⟩ := nst hZ hL ht (m := 7) (j := 17) (by decide) p1 (by decide) (by decide) a1 b1
  rw [show nI 7 = (7 : Int32) from rfl] at o2 g2 a2 b2 v2 r2
  rw [if_pos l15]
  generalize setI (f_X7_number Z 7).2 17 (f_X7_number Z 7).1 = U at *
  have hU := g2.rx hZ
  have p2 : nP t L (nW t L w 23 q) 7 (nP t L w 23 q) ≤ L := nP_le p1
  obtain ⟨o3, g3, a3, b3, v3, r3⟩ := nst hU hL ht (m := 9) (j := 18) (by decide) p2 (by decide) (by decide) a2 b2
  rw [show nI 9 = (9 : Int32) from rfl] at o3 g3 a3 b3 v3 r3
  generalize setI (f_X7_number U 9).2 18 (f_X7_number U 9).1 = V at *
  have l15v : V.1 15 = 109 := (r3 15 (by decide) (by decide) (by decide)).trans ((r2 15 (by decide) (by decide) (by decide)).trans l15)
  have n5 : ¬ V.1 15 = 105 := by rw [l15v]; decide
  rw [if_neg n5]
  refine ⟨⟨o1, fun _ => ⟨o2, o3, fun k => absurd k n5, fun _ => trivial⟩, fun k => absurd l15 k⟩, ((g.trans g1).trans g2).trans g3, ?_⟩
  obtain ⟨hq, hw⟩ := hw
  subst hq
  rcases hw with ⟨rfl, h5⟩ | ⟨rfl, h0⟩
  · rw [out_5 h5]
    exact ⟨a3, b3, fun k => (by cases k)⟩
  · have h5 : ¬ (WD t L p).1 = 5 := by omega
    unfold OD
    rw [if_neg h5, if_pos h0]
    rw [(nW_f 23 (q0 t L p)).1, (nW_f 23 (q0 t L p)).2] at a3 b3 v2 v3
    rw [(nW_f 23 (q0 t L p)).1] at v1
    by_cases c : (NU t L 23 (q0 t L p)).1 = true
    · rw [c] at a3 b3 v1 v2 v3
      rw [show (!true) = false from rfl] at a3 b3 v1 v2 v3
      rw [if_pos c]
      rw [(nW_f 7 _).1, (nW_f 7 _).2] at a3 b3 v3
      rw [(nW_f 7 _).1] at v2
      by_cases d : (NU t L 7 (q1 t L p)).1 = true
      · have d2 : (NU t L 7 (NU t L 23 (q0 t L p)).2.2).1 = true := d
        rw [d2] at a3 b3 v2 v3
        rw [show (!true) = false from rfl] at a3 b3 v2 v3
        rw [if_pos d]
        rw [(nW_f 9 _).1] at b3 v3
        rw [(nW_f 9 _).2] at a3
        refine ⟨a3, b3, fun k => ⟨l15v, ?_, fun _ => ⟨?_, ?_⟩⟩⟩
        · rw [r3 16 (by decide) (by decide) (by decide), r2 16 (by decide) (by decide) (by decide)]
          exact v1 rfl
        · rw [r3 17 (by decide) (by decide) (by decide)]
          exact v2 rfl
        · have k : (NU t L 9 (NU t L 7 (NU t L 23 (q0 t L p)).2.2).2.2).1 = true := k
          exact v3 (by rw [k]; rfl)
      · have d2 : (NU t L 7 (NU t L 23 (q0 t L p)).2.2).1 = false := by
          have : ¬ (NU t L 7 (NU t L 23 (q0 t L p)).2.2).1 = true := d
          simpa using this
        rw [d2] at a3 b3
        rw [if_neg d]
        exact ⟨a3, b3, fun k => (by cases k)⟩
    · have c' : (NU t L 23 (q0 t L p)).1 = false := by simpa using c
      rw [c'] at a3 b3
      rw [if_neg c]
      exact ⟨a3, b3, fun k => (by cases k)⟩
theorem out_i {S Y : CS} {p q : Nat} {w : Bool} (g : G4 S Y) (hx : RX t L Y) (hL : L ≤ 80) (ht : ∀ i, t i < 65536) (hq : q ≤ L) (e : Y.1 13 = nI q) (ew : Y.1 14 = bI w) (el : Y.1 15 = nI 105) (hw : q = q0 t L p ∧ ((w = true ∧ (WD t L p).1 = 5) ∨ (w = false ∧ (WD t L p).1 = 1))) : oj_X7_order_202 Y ∧ OUT t L S (j_X7_order_202 Y) p 105 := by
  obtain ⟨o1, g1, a1, b1, v1, r1⟩ := nst hx hL ht (m := 23) (j := 16) (by decide) hq (by decide) (by decide) e ew
  rw [show nI 23 = (23 : Int32) from rfl] at o1 g1 a1 b1 v1 r1
  unfold oj_X7_order_202 j_X7_order_202
  simp only [bind1]
  generalize setI (f_X7_number Y 23).2 16 (f_X7_number Y 23).1 = Z at *
  have l15 : Z.1 15 = 105 := (r1 15 (by decide) (by decide) (by decide)).trans el
  have n9 : ¬ Z.1 15 = 109 := by rw [l15]; decide
  have hZ := g1.rx hx
  have p1 : nP t L w 23 q ≤ L := nP_le hq
  obtain ⟨o2, g2, a2, b2, v2, r2⟩ := nst hZ hL ht (m := 23) (j := 17) (by decide) p1 (by decide) (by decide) a1 b1
  rw [show nI 23 = (23 : Int32) from rfl] at o2 g2 a2 b2 v2 r2
  rw [if_neg n9, if_pos l15]
  generalize setI (f_X7_number Z 23).2 17 (f_X7_number Z 23).1 = U at *
  have hU := g2.rx hZ
  have p2 : nP t L (nW t L w 23 q) 23 (nP t L w 23 q) ≤ L := nP_le p1
  obtain ⟨o3, s3, v3⟩ := cells_r hU hL ht p2 a2 b2
  have g3 : G4 U (setI (f_X7_cells U).2 18 (f_X7_cells U).1) := s3.g4.set _ (by decide) (by decide)
  have a3 : (setI (f_X7_cells U).2 18 (f_X7_cells U).1).1 13 = _ := (setI_n _ _ (by decide)).trans s3.2.2.1
  have b3 : (setI (f_X7_cells U).2 18 (f_X7_cells U).1).1 14 = _ := (setI_n _ _ (by decide)).trans s3.2.2.2
  have w3 : (setI (f_X7_cells U).2 18 (f_X7_cells U).1).1 18 = (f_X7_cells U).1 := setI_s _ _ _
  have r3 : ∀ i, i ≠ 13 → i ≠ 14 → i ≠ 18 → (setI (f_X7_cells U).2 18 (f_X7_cells U).1).1 i = U.1 i := fun i a b c => (setI_n _ _ c).trans (s3.1 i a b)
  rw [← w3] at v3
  generalize setI (f_X7_cells U).2 18 (f_X7_cells U).1 = V at *
  have l15v : V.1 15 = 105 := (r3 15 (by decide) (by decide) (by decide)).trans ((r2 15 (by decide) (by decide) (by decide)).trans l15)
  refine ⟨⟨o1, fun k => absurd k n9, fun _ => ⟨fun _ => ⟨o2, o3, trivial⟩, fun _ => trivial⟩⟩, ((g.trans g1).trans g2).trans g3, ?_⟩
  obtain ⟨hq, hw⟩ := hw
  subst hq
  rcases hw with ⟨rfl, h5⟩ | ⟨rfl, h1⟩
  · rw [out_5 h5]
    exact ⟨a3, b3, fun k => (by cases k)⟩
  · have h5 : ¬ (WD t L p).1 = 5 := by omega
    have h0 : ¬ (WD t L p).1 = 0 := by omega
    unfold OD
    rw [if_neg h5, if_neg h0, if_pos h1]
    rw [(nW_f 23 (q0 t L p)).1, (nW_f 23 (q0 t L p)).2] at a3 b3 v2 v3
    rw [(nW_f 23 (q0 t L p)).1] at v1
    by_cases c : (NU t L 23 (q0 t L p)).1 = true
    · rw [c] at a3 b3 v1 v2 v3
      rw [show (!true) = false from rfl] at a3 b3 v1 v2 v3
      rw [if_pos c]
      rw [(nW_f 23 (NU t L 23 (q0 t L p)).2.2).1, (nW_f 23 (NU t L 23 (q0 t L p)).2.2).2] at a3 b3 v3
      rw [(nW_f 23 (NU t L 23 (q0 t L p)).2.2).1] at v2
      by_cases d : (NU t L 23 (q1 t L p)).1 = true
      · have d2 : (NU t L 23 (NU t L 23 (q0 t L p)).2.2).1 = true := d
        rw [d2] at a3 b3 v2 v3
        rw [show (!true) = false from rfl] at a3 b3 v2 v3
        rw [if_pos d]
        refine ⟨a3, b3, fun k => ⟨l15v, ?_, fun _ => ⟨?_, ?_⟩⟩⟩
        · rw [r3 16 (by decide) (by decide) (by decide), r2 16 (by decide) (by decide) (by decide)]
          exact v1 rfl
        · rw [r3 17 (by decide) (by decide) (by decide)]
          exact v2 rfl
        · have k : (CE t L (NU t L 23 (NU t L 23 (q0 t L p)).2.2).2.2).1 = true := k
          exact v3 (by unfold eW; rw [k]; rfl)
      · have d2 : (NU t L 23 (NU t L 23 (q0 t L p)).2.2).1 = false := by
          have : ¬ (NU t L 23 (NU t L 23 (q0 t L p)).2.2).1 = true := d
          simpa using this
        rw [d2] at a3 b3
        rw [if_neg d]
        exact ⟨a3, b3, fun k => (by cases k)⟩
    · have c' : (NU t L 23 (q0 t L p)).1 = false := by simpa using c
      rw [c'] at a3 b3
      rw [if_neg c]
      exact ⟨a3, b3, fun k => (by cases k)⟩
end OFR
