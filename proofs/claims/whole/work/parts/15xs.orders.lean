/-! PURE PART. the class reads an order -/
section ORD
variable (t : Nat → Nat) (L : Nat)
def q0 (p : Nat) : Nat := (WD t L p).2
def q1 (p : Nat) : Nat := (NU t L 23 (q0 t L p)).2.2
def q2 (p m : Nat) : Nat := (NU t L m (q1 t L p)).2.2
/-- an order: is it one, where it ends (or its fault lies), its word and what stands behind -/
def OD (p : Nat) : Bool × Nat × Nat × Int32 × Int32 × Int32 :=
  if (WD t L p).1 = 5 then (false, q0 t L p, 5, 0, 0, 0)
  else if (WD t L p).1 = 0 then
    (if (NU t L 23 (q0 t L p)).1 = true then
      (if (NU t L 7 (q1 t L p)).1 = true then ((NU t L 9 (q2 t L p 7)).1, (NU t L 9 (q2 t L p 7)).2.2, 0, nI (NU t L 23 (q0 t L p)).2.1, nI (NU t L 7 (q1 t L p)).2.1, nI (NU t L 9 (q2 t L p 7)).2.1)
      else (false, q2 t L p 7, 0, 0, 0, 0))
    else (false, q1 t L p, 0, 0, 0, 0))
  else if (WD t L p).1 = 1 then
    (if (NU t L 23 (q0 t L p)).1 = true then
      (if (NU t L 23 (q1 t L p)).1 = true then ((CE t L (q2 t L p 23)).1, (CE t L (q2 t L p 23)).2.2, 1, nI (NU t L 23 (q0 t L p)).2.1, nI (NU t L 23 (q1 t L p)).2.1, (CE t L (q2 t L p 23)).2.1)
      else (false, q2 t L p 23, 1, 0, 0, 0))
    else (false, q1 t L p, 1, 0, 0, 0))
  else ((NU t L 23 (q0 t L p)).1, q1 t L p, (WD t L p).1, nI (NU t L 23 (q0 t L p)).2.1, 0, 0)
end ORD
section OR2
variable {t : Nat → Nat} {L : Nat}
theorem OD_le {p : Nat} (hp : p ≤ L) : p ≤ (OD t L p).2.1 ∧ (OD t L p).2.1 ≤ L ∧ ((OD t L p).1 = true → p + 5 ≤ (OD t L p).2.1 ∧ (OD t L p).2.2.1 ≤ 4) := by
  obtain ⟨w5, w1, w2, w3⟩ := WD_le (t := t) hp
  have w1 : p ≤ q0 t L p := w1
  have w2 : q0 t L p ≤ L := w2
  have w3 : (WD t L p).1 ≠ 5 → p + 3 ≤ q0 t L p := w3
  obtain ⟨a1, a2, -, a3⟩ := NU_le (t := t) (m := 23) w2
  have a1 : q0 t L p ≤ q1 t L p := a1
  have a2 : q1 t L p ≤ L := a2
  have a3 : (NU t L 23 (q0 t L p)).1 = true → q0 t L p + 2 ≤ q1 t L p := a3
  obtain ⟨b1, b2, -, b3⟩ := NU_le (t := t) (m := 7) a2
  have b1 : q1 t L p ≤ q2 t L p 7 := b1
  have b2 : q2 t L p 7 ≤ L := b2
  obtain ⟨c1, c2, -, c3⟩ := NU_le (t := t) (m := 9) b2
  obtain ⟨d1, d2, -, d3⟩ := NU_le (t := t) (m := 23) a2
  have d1 : q1 t L p ≤ q2 t L p 23 := d1
  have d2 : q2 t L p 23 ≤ L := d2
  obtain ⟨e1, e2, e3⟩ := CE_le (t := t) d2
  unfold OD
  by_cases x5 : (WD t L p).1 = 5
  · rw [if_pos x5]
    exact ⟨w1, w2, fun k => (by cases k)⟩
  have w3 := w3 x5
  rw [if_neg x5]
  by_cases x0 : (WD t L p).1 = 0
  · rw [if_pos x0]
    by_cases y : (NU t L 23 (q0 t L p)).1 = true
    · have a3 := a3 y
      rw [if_pos y]
      by_cases z : (NU t L 7 (q1 t L p)).1 = true
      · rw [if_pos z]
        exact ⟨by show p ≤ (NU t L 9 (q2 t L p 7)).2.2; omega, c2, fun k => ⟨by show p + 5 ≤ (NU t L 9 (q2 t L p 7)).2.2; omega, by show 0 ≤ 4; omega⟩⟩
      · rw [if_neg z]
        exact ⟨by show p ≤ q2 t L p 7; omega, b2, fun k => (by cases k)⟩
    · rw [if_neg y]
      exact ⟨by show p ≤ q1 t L p; omega, a2, fun k => (by cases k)⟩
  rw [if_neg x0]
  by_cases x1 : (WD t L p).1 = 1
  · rw [if_pos x1]
    by_cases y : (NU t L 23 (q0 t L p)).1 = true
    · have a3 := a3 y
      rw [if_pos y]
      by_cases z : (NU t L 23 (q1 t L p)).1 = true
      · rw [if_pos z]
        exact ⟨by show p ≤ (CE t L (q2 t L p 23)).2.2; omega, e2, fun k => ⟨by show p + 5 ≤ (CE t L (q2 t L p 23)).2.2; omega, by show 1 ≤ 4; omega⟩⟩
      · rw [if_neg z]
        exact ⟨by show p ≤ q2 t L p 23; omega, d2, fun k => (by cases k)⟩
    · rw [if_neg y]
      exact ⟨by show p ≤ q1 t L p; omega, a2, fun k => (by cases k)⟩
  rw [if_neg x1]
  exact ⟨by show p ≤ q1 t L p; omega, a2, fun k => ⟨by have := a3 k; show p + 5 ≤ q1 t L p; omega, by show (WD t L p).1 ≤ 4; omega⟩⟩
/-- what an order leaves in the rows of the class -/
def ARR (O O' : CS) (z : Nat) (d : Bool × Nat × Nat × Int32 × Int32 × Int32) : Prop := (∀ k, k ≠ z → O'.2 4 k = O.2 4 k ∧ O'.2 5 k = O.2 5 k ∧ O'.2 6 k = O.2 6 k ∧ O'.2 7 k = O.2 7 k) ∧ O'.2 4 z = nI d.2.2.1 ∧ O'.2 5 z = d.2.2.2.1 ∧ (d.2.2.1 ≤ 1 → O'.2 6 z = d.2.2.2.2.1 ∧ O'.2 7 z = d.2.2.2.2.2)
theorem order_n {O : CS} {p z : Nat} (hO : CX t L O) (hL : L ≤ 80) (ht : ∀ i, t i < 65536) (hp : p ≤ L) (hz : z < 16) (e : O.1 2 = nI p) (ez : O.1 3 = nI z) : o_X1_readOrder O ∧ (f_X1_readOrder O).1 = (OD t L p).1 ∧ cP O (f_X1_readOrder O).2 (OD t L p).2.1 ∧ (f_X1_readOrder O).2.2 0 = O.2 0 ∧ ((OD t L p).1 = true → ARR O (f_X1_readOrder O).2 z (OD t L p)) := by
  obtain ⟨w5, w1, w2, w3⟩ := WD_le (t := t) hp
  have w2 : q0 t L p ≤ L := w2
  obtain ⟨a1, a2, -, a3⟩ := NU_le (t := t) (m := 23) w2
  have a2 : q1 t L p ≤ L := a2
  obtain ⟨b1, b2, -, b3⟩ := NU_le (t := t) (m := 7) a2
  have b2 : q2 t L p 7 ≤ L := b2
  obtain ⟨d1, d2, -, d3⟩ := NU_le (t := t) (m := 23) a2
  have d2 : q2 t L p 23 ≤ L := d2
  obtain ⟨ow, ew⟩ := word_n hO hL ht hp e
  unfold o_X1_readOrder f_X1_readOrder
  rw [ew]
  simp only [bind1]
  have c0 := cP.set O (WD t L p).2
  have z0 : (setI O 2 (nI (WD t L p).2)).1 3 = nI z := (c0.1 3 (by decide)).trans ez
  rw [z0, put_n _ _ hz (by decide)]
  have cX : cP O (setF (setI O 2 (nI (WD t L p).2)) 4 (upd ((setI O 2 (nI (WD t L p).2)).2 4) z (wcode (WD t L p).1))) (q0 t L p) := c0
  have k4 : (setF (setI O 2 (nI (WD t L p).2)) 4 (upd ((setI O 2 (nI (WD t L p).2)).2 4) z (wcode (WD t L p).1))).2 4 = upd (O.2 4) z (wcode (WD t L p).1) := setF_s _ _ _
  have kj : ∀ j, j ≠ 4 → (setF (setI O 2 (nI (WD t L p).2)) 4 (upd ((setI O 2 (nI (WD t L p).2)).2 4) z (wcode (WD t L p).1))).2 j = O.2 j := fun j hj => setF_n _ _ hj
  generalize setF (setI O 2 (nI (WD t L p).2)) 4 (upd ((setI O 2 (nI (WD t L p).2)).2 4) z (wcode (WD t L p).1)) = X at *
  have hX : CX t L X := hO.cP cX (kj 0 (by decide))
  have zX : X.1 3 = nI z := (cX.1 3 (by decide)).trans ez
  unfold OD
  have wm : wcode (WD t L p).1 = -1 ↔ (WD t L p).1 = 5 := by
    unfold wcode
    by_cases c : (WD t L p).1 = 5
    · rw [if_pos c]; exact ⟨fun _ => c, fun _ => rfl⟩
    · rw [if_neg c]; exact ⟨fun k => absurd k.symm (m1_ne (by omega)), fun k => absurd k c⟩
  have w0' : (WD t L p).1 ≠ 5 → (wcode (WD t L p).1 = 0 ↔ (WD t L p).1 = 0) := fun c => by
    unfold wcode
    rw [if_neg c]
    exact nI_eq (b := 0) (by omega) (by decide)
  have w1' : (WD t L p).1 ≠ 5 → (wcode (WD t L p).1 = 1 ↔ (WD t L p).1 = 1) := fun c => by
    unfold wcode
    rw [if_neg c]
    exact nI_eq (b := 1) (by omega) (by decide)
  have wn : (WD t L p).1 ≠ 5 → wcode (WD t L p).1 = nI (WD t L p).1 := fun c => if_neg c
  by_cases x5 : (WD t L p).1 = 5
  · rw [if_pos (wm.mpr x5), if_pos x5]
    exact ⟨⟨ow, fun _ => trivial, fun k => absurd (wm.mpr x5) k⟩, rfl, cX, kj 0 (by decide), fun k => (by cases k)⟩
  have wm' : ¬ wcode (WD t L p).1 = -1 := fun k => x5 (wm.mp k)
  have w0' := w0' x5
  have w1' := w1' x5
  rw [wn x5] at k4
  rw [if_neg wm', if_neg x5]
  have n5 := num5_n hX hL ht (m := 23) (by decide) w2 hz cX.2 zX
  rw [show nI 23 = (23 : Int32) from rfl] at n5
  obtain ⟨o5, y1, y2, y3, y4⟩ := n5
  by_cases x0 : (WD t L p).1 = 0
  · rw [if_pos (w0'.mpr x0), if_pos x0]
    generalize f_X1_readNumber5 X 23 = Y at *
    rw [y1]
    by_cases c : (NU t L 23 (q0 t L p)).1 = true
    · have y4 := y4 c
      have hY : CX t L Y.2 := hX.cP y2 (y3 0 (by decide))
      have zY : Y.2.1 3 = nI z := (y2.1 3 (by decide)).trans zX
      have n6 := num6_n hY hL ht (m := 7) (by decide) a2 hz y2.2 zY
      rw [show nI 7 = (7 : Int32) from rfl] at n6
      obtain ⟨o6, u1, u2, u3, u4⟩ := n6
      rw [if_pos c, if_pos c]
      generalize f_X1_readNumber6 Y.2 7 = U at *
      rw [u1]
      by_cases d : (NU t L 7 (q1 t L p)).1 = true
      · have u4 := u4 d
        have hU : CX t L U.2 := hY.cP u2 (u3 0 (by decide))
        have zU : U.2.1 3 = nI z := (u2.1 3 (by decide)).trans zY
        have n7 := num7_n hU hL ht (m := 9) (by decide) b2 hz u2.2 zU
        rw [show nI 9 = (9 : Int32) from rfl] at n7
        obtain ⟨o7, v1, v2, v3, v4⟩ := n7
        rw [if_pos d, if_pos d]
        generalize f_X1_readNumber7 U.2 9 = V at *
        have eV : (if V.1 = true then (true, V.2) else (false, V.2)) = (V.1, V.2) := by
          by_cases k : V.1 = true
          · rw [if_pos k, k]
          · rw [if_neg k]
            have : V.1 = false := by simpa using k
            rw [this]
        rw [eV]
        refine ⟨⟨ow, fun k => absurd k wm', fun _ => ⟨fun _ => ⟨o5, fun _ => ⟨o6, fun _ => ⟨o7, fun _ => trivial, fun _ => trivial⟩, fun k => absurd d k⟩, fun k => absurd c k⟩, fun k => absurd (w0'.mpr x0) k⟩⟩, v1, ((cX.trans y2).trans u2).trans v2, ?_, fun k => ?_⟩
        · show V.2.2 0 = O.2 0
          rw [v3 0 (by decide), u3 0 (by decide), y3 0 (by decide), kj 0 (by decide)]
        · have v4 := v4 k
          refine ⟨fun i hi => ⟨?_, ?_, ?_, ?_⟩, ?_, ?_, fun _ => ⟨?_, ?_⟩⟩
          · show V.2.2 4 i = _
            rw [v3 4 (by decide), u3 4 (by decide), y3 4 (by decide), k4, pk_un hi]
          · show V.2.2 5 i = _
            rw [v3 5 (by decide), u3 5 (by decide), y4, pk_un hi, kj 5 (by decide)]
          · show V.2.2 6 i = _
            rw [v3 6 (by decide), u4, pk_un hi, y3 6 (by decide), kj 6 (by decide)]
          · show V.2.2 7 i = _
            rw [v4, pk_un hi, u3 7 (by decide), y3 7 (by decide), kj 7 (by decide)]
          · show V.2.2 4 z = nI 0
            rw [v3 4 (by decide), u3 4 (by decide), y3 4 (by decide), k4, pk_us, x0]
          · show V.2.2 5 z = _
            rw [v3 5 (by decide), u3 5 (by decide), y4, pk_us]
          · show V.2.2 6 z = _
            rw [v3 6 (by decide), u4, pk_us]
          · show V.2.2 7 z = _
            rw [v4, pk_us]
      · rw [if_neg d, if_neg d]
        exact ⟨⟨ow, fun k => absurd k wm', fun _ => ⟨fun _ => ⟨o5, fun _ => ⟨o6, fun k => absurd k d, fun _ => trivial⟩, fun k => absurd c k⟩, fun k => absurd (w0'.mpr x0) k⟩⟩, rfl, (cX.trans y2).trans u2, by show U.2.2 0 = O.2 0; rw [u3 0 (by decide), y3 0 (by decide), kj 0 (by decide)], fun k => (by cases k)⟩
    · rw [if_neg c, if_neg c]
      exact ⟨⟨ow, fun k => absurd k wm', fun _ => ⟨fun _ => ⟨o5, fun k => absurd k c, fun _ => trivial⟩, fun k => absurd (w0'.mpr x0) k⟩⟩, rfl, cX.trans y2, by show Y.2.2 0 = O.2 0; rw [y3 0 (by decide), kj 0 (by decide)], fun k => (by cases k)⟩
  rw [if_neg (fun k => x0 (w0'.mp k)), if_neg x0]
  by_cases x1 : (WD t L p).1 = 1
  · rw [if_pos (w1'.mpr x1), if_pos x1]
    generalize f_X1_readNumber5 X 23 = Y at *
    rw [y1]
    by_cases c : (NU t L 23 (q0 t L p)).1 = true
    · have y4 := y4 c
      have hY : CX t L Y.2 := hX.cP y2 (y3 0 (by decide))
      have zY : Y.2.1 3 = nI z := (y2.1 3 (by decide)).trans zX
      have n6 := num6_n hY hL ht (m := 23) (by decide) a2 hz y2.2 zY
      rw [show nI 23 = (23 : Int32) from rfl] at n6
      obtain ⟨o6, u1, u2, u3, u4⟩ := n6
      rw [if_pos c, if_pos c]
      generalize f_X1_readNumber6 Y.2 23 = U at *
      rw [u1]
      by_cases d : (NU t L 23 (q1 t L p)).1 = true
      · have u4 := u4 d
        have hU : CX t L U.2 := hY.cP u2 (u3 0 (by decide))
        have zU : U.2.1 3 = nI z := (u2.1 3 (by decide)).trans zY
        obtain ⟨o7, v1, v2, v3, v4⟩ := cells_n hU hL ht d2 hz u2.2 zU
        rw [if_pos d, if_pos d]
        generalize f_X1_readCells U.2 = V at *
        have eV : (if V.1 = true then (true, V.2) else (false, V.2)) = (V.1, V.2) := by
          by_cases k : V.1 = true
          · rw [if_pos k, k]
          · rw [if_neg k]
            have : V.1 = false := by simpa using k
            rw [this]
        rw [eV]
        refine ⟨⟨ow, fun k => absurd k wm', fun _ => ⟨fun k => absurd (w0'.mp k) x0, fun _ => ⟨fun _ => ⟨o5, fun _ => ⟨o6, fun _ => ⟨o7, fun _ => trivial, fun _ => trivial⟩, fun k => absurd d k⟩, fun k => absurd c k⟩, fun k => absurd (w1'.mpr x1) k⟩⟩⟩, v1, ((cX.trans y2).trans u2).trans v2, ?_, fun k => ?_⟩
        · show V.2.2 0 = O.2 0
          rw [v3 0 (by decide), u3 0 (by decide), y3 0 (by decide), kj 0 (by decide)]
        · have v4 := v4 k
          refine ⟨fun i hi => ⟨?_, ?_, ?_, ?_⟩, ?_, ?_, fun _ => ⟨?_, ?_⟩⟩
          · show V.2.2 4 i = _
            rw [v3 4 (by decide), u3 4 (by decide), y3 4 (by decide), k4, pk_un hi]
          · show V.2.2 5 i = _
            rw [v3 5 (by decide), u3 5 (by decide), y4, pk_un hi, kj 5 (by decide)]
          · show V.2.2 6 i = _
            rw [v3 6 (by decide), u4, pk_un hi, y3 6 (by decide), kj 6 (by decide)]
          · show V.2.2 7 i = _
            rw [v4, pk_un hi, u3 7 (by decide), y3 7 (by decide), kj 7 (by decide)]
          · show V.2.2 4 z = nI 1
            rw [v3 4 (by decide), u3 4 (by decide), y3 4 (by decide), k4, pk_us, x1]
          · show V.2.2 5 z = _
            rw [v3 5 (by decide), u3 5 (by decide), y4, pk_us]
          · show V.2.2 6 z = _
            rw [v3 6 (by decide), u4, pk_us]
          · show V.2.2 7 z = _
            rw [v4, pk_us]
      · rw [if_neg d, if_neg d]
        exact ⟨⟨ow, fun k => absurd k wm', fun _ => ⟨fun k => absurd (w0'.mp k) x0, fun _ => ⟨fun _ => ⟨o5, fun _ => ⟨o6, fun k => absurd k d, fun _ => trivial⟩, fun k => absurd c k⟩, fun k => absurd (w1'.mpr x1) k⟩⟩⟩, rfl, (cX.trans y2).trans u2, by show U.2.2 0 = O.2 0; rw [u3 0 (by decide), y3 0 (by decide), kj 0 (by decide)], fun k => (by cases k)⟩
    · rw [if_neg c, if_neg c]
      exact ⟨⟨ow, fun k => absurd k wm', fun _ => ⟨fun k => absurd (w0'.mp k) x0, fun _ => ⟨fun _ => ⟨o5, fun k => absurd k c, fun _ => trivial⟩, fun k => absurd (w1'.mpr x1) k⟩⟩⟩, rfl, cX.trans y2, by show Y.2.2 0 = O.2 0; rw [y3 0 (by decide), kj 0 (by decide)], fun k => (by cases k)⟩
  rw [if_neg (fun k => x1 (w1'.mp k)), if_neg x1]
  generalize f_X1_readNumber5 X 23 = Y at *
  refine ⟨⟨ow, fun k => absurd k wm', fun _ => ⟨fun k => absurd (w0'.mp k) x0, fun _ => ⟨fun k => absurd (w1'.mp k) x1, fun _ => ⟨o5, trivial⟩⟩⟩⟩, y1, cX.trans y2, ?_, fun k => ?_⟩
  · show Y.2.2 0 = O.2 0
    rw [y3 0 (by decide), kj 0 (by decide)]
  · have y4 := y4 k
    refine ⟨fun i hi => ⟨?_, ?_, ?_, ?_⟩, ?_, ?_, fun h1 => ?_⟩
    · show Y.2.2 4 i = _
      rw [y3 4 (by decide), k4, pk_un hi]
    · show Y.2.2 5 i = _
      rw [y4, pk_un hi, kj 5 (by decide)]
    · show Y.2.2 6 i = _
      rw [y3 6 (by decide), kj 6 (by decide)]
    · show Y.2.2 7 i = _
      rw [y3 7 (by decide), kj 7 (by decide)]
    · show Y.2.2 4 z = _
      rw [y3 4 (by decide), k4, pk_us]
    · show Y.2.2 5 z = _
      rw [y4, pk_us]
    · have h1 : (WD t L p).1 ≤ 1 := h1
      omega
end OR2
