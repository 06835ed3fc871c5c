/-! PURE PART. the reference's reader: signs, numbers, cells -/
def RX (t : Nat → Nat) (L : Nat) (S : CS) : Prop := S.1 7 = nI L ∧ ∀ i, i < L → S.2 6 i = nI (t i)
def SG (S Z : CS) (w : Bool) (p : Nat) : Prop := (∀ j, j ≠ 13 → j ≠ 14 → Z.1 j = S.1 j) ∧ Z.2 = S.2 ∧ Z.1 13 = nI p ∧ Z.1 14 = bI w
section PLR
variable (t : Nat → Nat) (L : Nat)
def sW (w : Bool) (p c : Nat) : Bool := w || !tq t L p c
def sP (w : Bool) (p c : Nat) : Nat := if w = true then p else if tq t L p c = true then p + 1 else p
def nW (w : Bool) (m p : Nat) : Bool := w || !(NU t L m p).1
def nP (w : Bool) (m p : Nat) : Nat := if w = true then p else (NU t L m p).2.2
def eW (w : Bool) (p : Nat) : Bool := w || !(CE t L p).1
def eP (w : Bool) (p : Nat) : Nat := if w = true then p else (CE t L p).2.2
end PLR
section SGR
variable {t : Nat → Nat} {L : Nat}
theorem SG.rx {S Z : CS} {w : Bool} {p : Nat} (h : SG S Z w p) (hx : RX t L S) : RX t L Z := ⟨(h.1 7 (by decide) (by decide)).trans hx.1, fun i hi => by rw [h.2.1]; exact hx.2 i hi⟩
theorem SG.trans {S Z R : CS} {w w' : Bool} {p p' : Nat} (h : SG S Z w p) (h2 : SG Z R w' p') : SG S R w' p' := ⟨fun j a b => (h2.1 j a b).trans (h.1 j a b), h2.2.1.trans h.2.1, h2.2.2.1, h2.2.2.2⟩
theorem sg_i (S : CS) {p : Nat} {w : Bool} {a b : Int32} (ha : a = bI w) (hb : b = nI p) : SG S (setI (setI S 14 a) 13 b) w p := ⟨fun j x y => (setI_n _ _ x).trans (setI_n _ _ y), rfl, (setI_s _ _ _).trans hb, ((setI_n _ _ (by decide)).trans (setI_s _ _ _)).trans ha⟩
theorem sg_w (S : CS) {p : Nat} {w : Bool} {a : Int32} (ha : a = bI w) (hb : S.1 13 = nI p) : SG S (setI S 14 a) w p := ⟨fun j _ y => setI_n _ _ y, rfl, (setI_n _ _ (by decide)).trans hb, (setI_s _ _ _).trans ha⟩
theorem sg_p (S : CS) {p : Nat} {w : Bool} {b : Int32} (ha : S.1 14 = bI w) (hb : b = nI p) : SG S (setI S 13 b) w p := ⟨fun j x _ => setI_n _ _ x, rfl, (setI_s _ _ _).trans hb, (setI_n _ _ (by decide)).trans ha⟩
theorem sg_r {S : CS} {p : Nat} {w : Bool} (hb : S.1 13 = nI p) (ha : S.1 14 = bI w) : SG S S w p := ⟨fun _ _ _ => rfl, rfl, hb, ha⟩
theorem sP_le {w : Bool} {p c : Nat} (hp : p ≤ L) : sP t L w p c ≤ L := by
  unfold sP
  by_cases a : w = true
  · rw [if_pos a]; exact hp
  · rw [if_neg a]
    by_cases b : tq t L p c = true
    · rw [if_pos b]; exact (tq_i.mp b).1
    · rw [if_neg b]; exact hp
theorem nP_le {w : Bool} {m p : Nat} (hp : p ≤ L) : nP t L w m p ≤ L := by
  unfold nP
  by_cases a : w = true
  · rw [if_pos a]; exact hp
  · rw [if_neg a]; exact (NU_le hp).2.1
theorem sign_r {S : CS} {p c : Nat} {w : Bool} (hx : RX t L S) (hL : L ≤ 80) (ht : ∀ i, t i < 65536) (hp : p ≤ L) (hc : c < 2 ^ 31) (e : S.1 13 = nI p) (ew : S.1 14 = bI w) : o_X7_sign S (nI c) ∧ SG S (f_X7_sign S (nI c)) (sW t L w p c) (sP t L w p c) := by
  have tp := ht p
  have q : nI p < nI L ↔ p < L := nI_ltI (by omega) (by omega)
  have z0 : nI p + 0 = nI p := nI_add p 0
  unfold o_X7_sign f_X7_sign sW sP
  simp only [bind1]
  rw [ew, e, hx.1, nI_clamp (by omega)]
  cases w with
  | true =>
    rw [if_neg (show ¬ bI true = 0 by decide)]
    refine ⟨⟨fun k => absurd k (by decide), fun _ => trivial⟩, ?_⟩
    rw [setI_n _ _ (by decide), e, z0]
    exact sg_i S rfl rfl
  | false =>
    rw [if_pos (show bI false = 0 by decide), if_neg (show ¬ false = true by decide)]
    by_cases d : p < L
    · rw [if_pos (q.mpr d), hx.2 p d]
      have q2 : nI (t p) = nI c ↔ t p = c := nI_eq (by omega) hc
      have iv : vp_in (nI p) 80 := vp_in_nI (by omega) (by decide)
      by_cases y : t p = c
      · have ty : tq t L p c = true := tq_i.mpr ⟨d, y⟩
        rw [if_pos (q2.mpr y), ty, if_pos rfl, setI_n _ _ (by decide), e, nI_1]
        exact ⟨⟨fun _ => ⟨fun _ => ⟨iv, fun _ => trivial, fun _ => trivial⟩, fun _ => trivial⟩, fun _ => trivial⟩, sg_i S rfl rfl⟩
      · have ty : ¬ tq t L p c = true := fun k => y (tq_i.mp k).2
        have ty' : tq t L p c = false := by simpa using ty
        rw [if_neg (fun k => y (q2.mp k)), if_neg ty, ty', setI_n _ _ (by decide), e, z0]
        exact ⟨⟨fun _ => ⟨fun _ => ⟨iv, fun _ => trivial, fun _ => trivial⟩, fun _ => trivial⟩, fun _ => trivial⟩, sg_i S rfl rfl⟩
    · have ty : ¬ tq t L p c = true := fun k => d (tq_i.mp k).1
      have ty' : tq t L p c = false := by simpa using ty
      rw [if_neg (fun k => d (q.mp k)), if_neg ty, ty', setI_n _ _ (by decide), e, z0]
      exact ⟨⟨fun _ => ⟨fun k => absurd (q.mp k) d, fun _ => trivial⟩, fun _ => trivial⟩, sg_i S rfl rfl⟩
theorem nxt_n {S : CS} {p a b : Nat} {w : Bool} (hx : RX t L S) (hL : L ≤ 80) (ht : ∀ i, t i < 65536) (hp : p ≤ L) (ha : a < 2 ^ 31) (hb : b < 2 ^ 31) (e : S.1 13 = nI p) (ew : S.1 14 = bI w) : o_X7_isNext S (nI a) (nI b) ∧ (f_X7_isNext S (nI a) (nI b) = true ↔ w = false ∧ p < L ∧ a ≤ t p ∧ t p ≤ b) := by
  have tp := ht p
  have q : nI p < nI L ↔ p < L := nI_ltI (by omega) (by omega)
  unfold o_X7_isNext f_X7_isNext
  rw [ew, e, hx.1, nI_clamp (by omega)]
  cases w with
  | true =>
    rw [if_neg (show ¬ bI true = 0 by decide)]
    exact ⟨⟨fun k => absurd k (by decide), fun _ => trivial⟩, fun k => (by cases k), fun k => (by cases k.1)⟩
  | false =>
    rw [if_pos (show bI false = 0 by decide)]
    by_cases d : p < L
    · rw [if_pos (q.mpr d), hx.2 p d, in_spec]
      have iv : vp_in (nI p) 80 := vp_in_nI (by omega) (by decide)
      have q1 : nI (t p) < nI a ↔ t p < a := nI_ltI (by omega) ha
      have q2 : nI b < nI (t p) ↔ b < t p := nI_ltI hb (by omega)
      have q3 : decide (¬ nI (t p) < nI a ∧ ¬ nI b < nI (t p)) = true ↔ a ≤ t p ∧ t p ≤ b := by
        rw [decide_eq_true_iff, q1, q2]
        omega
      refine ⟨⟨fun _ => ⟨fun _ => ⟨iv, fun _ => trivial, fun _ => trivial⟩, fun _ => trivial⟩, fun _ => trivial⟩, ?_⟩
      by_cases y : decide (¬ nI (t p) < nI a ∧ ¬ nI b < nI (t p)) = true
      · rw [if_pos y]
        exact ⟨fun _ => ⟨rfl, d, q3.mp y⟩, fun _ => rfl⟩
      · rw [if_neg y]
        exact ⟨fun k => (by cases k), fun k => absurd (q3.mpr k.2.2) y⟩
    · rw [if_neg (fun k => d (q.mp k))]
      exact ⟨⟨fun _ => ⟨fun k => absurd (q.mp k) d, fun _ => trivial⟩, fun _ => trivial⟩, fun k => (by cases k), fun k => absurd k.2.1 d⟩
theorem num_l {m : Nat} (hL : L ≤ 80) (ht : ∀ i, t i < 65536) (hm : m ≤ 30) : ∀ (n p v : Nat) (S : CS), RX t L S → S.1 13 = nI p → S.1 14 = bI false → L < n + p → 0 < v → v ≤ m → p ≤ L → ol_X7_number_81 (nI m) n S (nI v) ∧ (l_X7_number_81 (nI m) n S (nI v)).1 = nI (md t L m n p v).1 ∧ SG S (l_X7_number_81 (nI m) n S (nI v)).2 false (md t L m n p v).2 := by
  intro n
  induction n with
  | zero => intro p v S h1 h2 h3 h4; omega
  | succ n ih =>
    intro p v S hx e ew h4 v0 vm hp
    have tp := ht p
    obtain ⟨on, xn⟩ := nxt_n (a := 48) (b := 57) hx hL ht hp (by decide) (by decide) e ew
    rw [show nI 48 = (48 : Int32) from rfl, show nI 57 = (57 : Int32) from rfl] at on xn
    have l0 : (0 : Int32) < nI v := (nI_ltI (a := 0) (by decide) (by omega)).mpr v0
    have iv : p < L → vp_in (S.1 13) 80 := fun h => by rw [e]; exact vp_in_nI (by omega) (by decide)
    rw [ol_X7_number_81, l_X7_number_81, md, if_pos l0]
    by_cases c : f_X7_isNext S 48 57 = true
    · obtain ⟨-, c1, c2, c3⟩ := xn.mp c
      have d : isD t L p = true := isD_i.mpr ⟨c1, c2, c3⟩
      have e2 : ((10 * nI v) + S.2 6 (S.1 13).toNatClampNeg) - 48 = nI (10 * v + (t p - 48)) := by
        rw [e, nI_clamp (by omega), hx.2 p c1, show (10 : Int32) = nI 10 from rfl, pk_mul, nI_add, show (48 : Int32) = nI 48 from rfl, pk_sub (by omega)]
        congr 1
        omega
      have q2 : nI m < nI (10 * v + (t p - 48)) ↔ m < 10 * v + (t p - 48) := nI_ltI (by omega) (by omega)
      rw [if_pos c, e2]
      by_cases y : m < 10 * v + (t p - 48)
      · rw [if_pos (q2.mpr y), if_neg (show ¬ (isD t L p = true ∧ 10 * v + (t p - 48) ≤ m) from fun k => by omega)]
        exact ⟨⟨fun _ => ⟨on, fun _ => ⟨iv c1, fun _ => trivial, fun k => absurd (q2.mpr y) k⟩, fun k => absurd c k⟩, fun k => absurd l0 k⟩, rfl, sg_r e ew⟩
      · have s1 : SG S (setI S 13 (S.1 13 + 1)) false (p + 1) := sg_p S ew (by rw [e]; exact nI_1 p)
        obtain ⟨o, a1, a2⟩ := ih (p + 1) (10 * v + (t p - 48)) (setI S 13 (S.1 13 + 1)) (s1.rx hx) s1.2.2.1 s1.2.2.2 (by omega) (by omega) (by omega) (by omega)
        simp only [bind1]
        rw [if_neg (fun k => y (q2.mp k)), if_pos (show isD t L p = true ∧ 10 * v + (t p - 48) ≤ m from ⟨d, by omega⟩)]
        exact ⟨⟨fun _ => ⟨on, fun _ => ⟨iv c1, fun k => absurd (q2.mp k) y, fun _ => ⟨iv c1, o⟩⟩, fun k => absurd c k⟩, fun k => absurd l0 k⟩, a1, s1.trans a2⟩
    · have d : ¬ isD t L p = true := fun k => c (xn.mpr ⟨rfl, isD_i.mp k⟩)
      rw [if_neg c, if_neg (show ¬ (isD t L p = true ∧ 10 * v + (t p - 48) ≤ m) from fun k => d k.1)]
      exact ⟨⟨fun _ => ⟨on, fun k => absurd k c, fun _ => trivial⟩, fun k => absurd l0 k⟩, rfl, sg_r e ew⟩
theorem number_r {S : CS} {p m : Nat} {w : Bool} (hx : RX t L S) (hL : L ≤ 80) (ht : ∀ i, t i < 65536) (hm : m ≤ 30) (hp : p ≤ L) (e : S.1 13 = nI p) (ew : S.1 14 = bI w) : o_X7_number S (nI m) ∧ SG S (f_X7_number S (nI m)).2 (nW t L w m p) (nP t L w m p) ∧ (nW t L w m p = false → (f_X7_number S (nI m)).1 = nI (NU t L m p).2.1) := by
  obtain ⟨os, ss⟩ := sign_r (c := 32) hx hL ht hp (by decide) e ew
  rw [show nI 32 = (32 : Int32) from rfl] at os ss
  unfold o_X7_number f_X7_number
  simp only [bind1]
  generalize f_X7_sign S 32 = Y at *
  have hY := ss.rx hx
  have pY : sP t L w p 32 ≤ L := sP_le hp
  obtain ⟨on, xn⟩ := nxt_n (a := 48) (b := 57) hY hL ht pY (by decide) (by decide) ss.2.2.1 ss.2.2.2
  rw [show nI 48 = (48 : Int32) from rfl, show nI 57 = (57 : Int32) from rfl] at on xn
  unfold nW nP NU
  unfold sW sP at *
  cases w with
  | true =>
    rw [Bool.true_or, if_pos rfl] at ss
    have z : ¬ Y.1 14 = 0 := by rw [ss.2.2.2]; decide
    rw [if_neg z, Bool.true_or, if_pos rfl]
    exact ⟨⟨os, fun k => absurd k z, fun _ => trivial⟩, ss.trans (sg_w Y rfl ss.2.2.1), fun k => (by cases k)⟩
  | false =>
    rw [if_neg (show ¬ false = true by decide)] at *
    by_cases a : tq t L p 32 = true
    · rw [a, if_pos rfl] at ss xn pY
      rw [if_pos a]
      have z : Y.1 14 = 0 := by rw [ss.2.2.2]; decide
      have tp := ht (p + 1)
      rw [if_pos z]
      by_cases c : f_X7_isNext Y 48 57 = true
      · obtain ⟨-, c1, c2, c3⟩ := xn.mp c
        have d : isD t L (p + 1) = true := isD_i.mpr ⟨c1, c2, c3⟩
        have ec : Y.2 6 (Y.1 13).toNatClampNeg - 48 = nI (t (p + 1) - 48) := by
          rw [ss.2.2.1, nI_clamp (by omega), hY.2 _ c1, show (48 : Int32) = nI 48 from rfl, pk_sub c2]
        have iv : vp_in (Y.1 13) 80 := by rw [ss.2.2.1]; exact vp_in_nI (by omega) (by decide)
        have q2 : nI m < nI (t (p + 1) - 48) ↔ m < t (p + 1) - 48 := nI_ltI (by omega) (by omega)
        rw [if_pos c, ec]
        by_cases y : m < t (p + 1) - 48
        · rw [if_pos (q2.mpr y), if_neg (show ¬ (isD t L (p + 1) = true ∧ t (p + 1) - 48 ≤ m) from fun k => by omega)]
          exact ⟨⟨os, fun _ => ⟨on, fun _ => ⟨iv, fun _ => trivial, fun k => absurd (q2.mpr y) k⟩, fun k => absurd c k⟩, fun k => absurd z k⟩, ss.trans (sg_w Y rfl ss.2.2.1), fun k => (by cases k)⟩
        · have s1 : SG Y (setI Y 14 0) false (p + 1) := sg_w Y rfl ss.2.2.1
          have ec2 : (setI Y 14 0).2 6 ((setI Y 14 0).1 13).toNatClampNeg - 48 = nI (t (p + 1) - 48) := by
            rw [setI_n _ _ (by decide)]
            exact ec
          have iv2 : vp_in ((setI Y 14 0).1 13) 80 := by rw [setI_n _ _ (by decide)]; exact iv
          rw [ec2]
          generalize setI Y 14 0 = U at *
          have s2 : SG U (setI U 13 (U.1 13 + 1)) false (p + 2) := sg_p U s1.2.2.2 (by rw [s1.2.2.1]; exact nI_1 (p + 1))
          have s3 := (ss.trans s1).trans s2
          rw [if_neg (fun k => y (q2.mp k)), if_pos (show isD t L (p + 1) = true ∧ t (p + 1) - 48 ≤ m from ⟨d, by omega⟩)]
          generalize setI U 13 (U.1 13 + 1) = V at *
          by_cases x : 0 < t (p + 1) - 48
          · obtain ⟨o, a1, a2⟩ := num_l hL ht hm 81 (p + 2) (t (p + 1) - 48) V (s3.rx hx) s3.2.2.1 s3.2.2.2 (by omega) x (by omega) (by omega)
            rw [md_fuel m 81 82 (p + 2) (t (p + 1) - 48) (by omega) (by omega)] at a1 a2
            rw [if_pos x]
            generalize l_X7_number_81 (nI m) 81 V (nI (t (p + 1) - 48)) = R at *
            exact ⟨⟨os, fun _ => ⟨on, fun _ => ⟨iv, fun k => absurd (q2.mp k) y, fun _ => ⟨iv2, o⟩⟩, fun k => absurd c k⟩, fun k => absurd z k⟩, s3.trans a2, fun _ => a1⟩
          · have v0 : t (p + 1) - 48 = 0 := by omega
            have n0 : ¬ (0 : Int32) < nI (t (p + 1) - 48) := by rw [v0]; decide
            have el : l_X7_number_81 (nI m) (80 + 1) V (nI (t (p + 1) - 48)) = (nI (t (p + 1) - 48), V) := by
              rw [l_X7_number_81, if_neg n0]
              rfl
            have ol : ol_X7_number_81 (nI m) (80 + 1) V (nI (t (p + 1) - 48)) := by
              rw [ol_X7_number_81]
              exact ⟨fun k => absurd k n0, fun _ => trivial⟩
            rw [if_neg x]
            have el : l_X7_number_81 (nI m) 81 V (nI (t (p + 1) - 48)) = (nI (t (p + 1) - 48), V) := el
            have ol : ol_X7_number_81 (nI m) 81 V (nI (t (p + 1) - 48)) := ol
            rw [el]
            exact ⟨⟨os, fun _ => ⟨on, fun _ => ⟨iv, fun k => absurd (q2.mp k) y, fun _ => ⟨iv2, ol⟩⟩, fun k => absurd c k⟩, fun k => absurd z k⟩, s3, fun _ => congrArg nI v0⟩
      · have d : ¬ isD t L (p + 1) = true := fun k => c (xn.mpr ⟨rfl, isD_i.mp k⟩)
        rw [if_neg c, if_neg (show ¬ (isD t L (p + 1) = true ∧ t (p + 1) - 48 ≤ m) from fun k => d k.1)]
        exact ⟨⟨os, fun _ => ⟨on, fun k => absurd k c, fun _ => trivial⟩, fun k => absurd z k⟩, ss.trans (sg_w Y rfl ss.2.2.1), fun k => (by cases k)⟩
    · have a' : tq t L p 32 = false := by simpa using a
      rw [a', if_neg (show ¬ false = true by decide)] at ss
      rw [if_neg a]
      have z : ¬ Y.1 14 = 0 := by rw [ss.2.2.2]; decide
      rw [if_neg z]
      exact ⟨⟨os, fun k => absurd k z, fun _ => trivial⟩, ss.trans (sg_w Y rfl ss.2.2.1), fun k => (by cases k)⟩
end SGR
