/-! PURE PART. how a text is read: the plan, and the class's reader -/
section PLAN
variable (t : Nat → Nat) (L : Nat)
def tq (p c : Nat) : Bool := decide (p < L) && decide (t p = c)
def isD (p : Nat) : Bool := decide (p < L) && (decide (48 ≤ t p) && decide (t p ≤ 57))
def md (m : Nat) : Nat → Nat → Nat → Nat × Nat
  | 0, p, v => (v, p)
  | n + 1, p, v => if isD t L p = true ∧ 10 * v + (t p - 48) ≤ m then md m n (p + 1) (10 * v + (t p - 48)) else (v, p)
def NU (m p : Nat) : Bool × Nat × Nat := if tq t L p 32 = true then (if isD t L (p + 1) = true ∧ t (p + 1) - 48 ≤ m then (if 0 < t (p + 1) - 48 then (true, md t L m 82 (p + 2) (t (p + 1) - 48)) else (true, 0, p + 2)) else (false, 0, p + 1)) else (false, 0, p)
def cl : Nat → Nat → Nat → Int32 → Int32 × Nat
  | 0, p, _, x => (x, p)
  | n + 1, p, lo, x => if p < L ∧ 48 + lo ≤ t p ∧ t p ≤ 55 then cl n (p + 1) (t p - 48 + 1) (x ||| f_X4_of (nI (t p - 48))) else (x, p)
def CE (p : Nat) : Bool × Int32 × Nat := if tq t L p 32 = true then (if p + 1 < L ∧ 48 ≤ t (p + 1) ∧ t (p + 1) ≤ 55 then (true, cl t L 10 (p + 1) 0 0) else (false, 0, p + 1)) else (false, 0, p)
/-- how many characters from p on are those of a word, from its i-th on -/
def al (f : Nat → Nat) (p : Nat) : Nat → Nat → Nat
  | 0, _ => 0
  | r + 1, i => if tq t L (p + i) (f i) = true then al f p r (i + 1) + 1 else 0
def wc (k i : Nat) : Nat := (([[109, 97, 107, 101], [109, 105, 120], [97, 115, 107], [114, 111, 111, 116], [106, 111, 105, 110]] : List (List Nat)).getD k []).getD i 0
def wl (k : Nat) : Nat := lenS.getD k 0
abbrev aw (p k : Nat) : Nat := al t L (wc k) p (wl k) 0
def WD (p : Nat) : Nat × Nat := if aw t L p 0 = 4 then (0, p + 4) else if aw t L p 1 = 3 then (1, p + 3) else if aw t L p 2 = 3 then (2, p + 3) else if aw t L p 3 = 4 then (3, p + 4) else if aw t L p 4 = 4 then (4, p + 4) else (5, p + max (max (max (max (aw t L p 0) (aw t L p 1)) (aw t L p 2)) (aw t L p 3)) (aw t L p 4))
end PLAN
def CX (t : Nat → Nat) (L : Nat) (O : CS) : Prop := O.1 1 = nI L ∧ ∀ i, i < L → O.2 0 i = nI (t i)
section RDR
variable {t : Nat → Nat} {L : Nat}
theorem tq_i {p c : Nat} : tq t L p c = true ↔ p < L ∧ t p = c := by unfold tq; simp
theorem isD_i {p : Nat} : isD t L p = true ↔ p < L ∧ 48 ≤ t p ∧ t p ≤ 57 := by unfold isD; simp
theorem md_le (m : Nat) : ∀ (n p v : Nat), p ≤ L → v ≤ m → p ≤ (md t L m n p v).2 ∧ (md t L m n p v).2 ≤ L ∧ (md t L m n p v).1 ≤ m := by
  intro n
  induction n with
  | zero => intro p v h1 h2; exact ⟨Nat.le_refl _, h1, h2⟩
  | succ n ih =>
    intro p v h1 h2
    rw [md]
    by_cases c : isD t L p = true ∧ 10 * v + (t p - 48) ≤ m
    · rw [if_pos c]
      have := (isD_i.mp c.1).1
      obtain ⟨a, b, d⟩ := ih (p + 1) (10 * v + (t p - 48)) (by omega) c.2
      exact ⟨by omega, b, d⟩
    · rw [if_neg c]
      exact ⟨Nat.le_refl _, h1, h2⟩
theorem md_fuel (m : Nat) : ∀ (n n' p v : Nat), L < n + p → L < n' + p → md t L m n p v = md t L m n' p v := by
  intro n
  induction n with
  | zero =>
    intro n' p v h1 h2
    cases n' with
    | zero => rfl
    | succ n' =>
      rw [md, md, if_neg]
      intro c
      have := (isD_i.mp c.1).1
      omega
  | succ n ih =>
    intro n' p v h1 h2
    cases n' with
    | zero =>
      rw [md, md, if_neg]
      intro c
      have := (isD_i.mp c.1).1
      omega
    | succ n' =>
      rw [md, md]
      by_cases c : isD t L p = true ∧ 10 * v + (t p - 48) ≤ m
      · rw [if_pos c, if_pos c]
        exact ih n' (p + 1) _ (by omega) (by omega)
      · rw [if_neg c, if_neg c]
theorem m1_ne {n : Nat} (h : n < 2 ^ 31) : ¬ (-1 : Int32) = nI n := fun z => nI_pos h (z ▸ (show (-1 : Int32) < 0 by decide))
theorem sign_c {O : CS} (hO : CX t L O) (hL : L ≤ 80) {p : Nat} (hp : p < 2 ^ 31) : f_X1_signAt O (nI p) = if p < L then nI (t p) else -1 := by
  unfold f_X1_signAt
  rw [if_neg (nI_pos hp), hO.1]
  have q : nI p < nI L ↔ p < L := nI_ltI hp (by omega)
  by_cases c : p < L
  · rw [if_pos (q.mpr c), if_pos (show nI p < 80 from nI_lt (show p < 80 by omega) (by decide)), nI_clamp hp, hO.2 p c, if_pos c]
  · rw [if_neg (fun z => c (q.mp z)), if_neg c]
theorem signq {O : CS} (hO : CX t L O) (hL : L ≤ 80) (ht : ∀ i, t i < 65536) {p c : Nat} (hp : p < 2 ^ 31) (hc : c < 2 ^ 31) : f_X1_signAt O (nI p) = nI c ↔ tq t L p c = true := by
  rw [sign_c hO hL hp, tq_i]
  have := ht p
  by_cases d : p < L
  · rw [if_pos d, nI_eq (by omega) hc]
    exact ⟨fun z => ⟨d, z⟩, fun z => z.2⟩
  · rw [if_neg d]
    exact ⟨fun z => absurd z (m1_ne hc), fun z => absurd z.1 d⟩
theorem dig_n {O : CS} (hO : CX t L O) (hL : L ≤ 80) (ht : ∀ i, t i < 65536) {p : Nat} (hp : p < 2 ^ 31) : f_X1_digitAt O (nI p) = if isD t L p = true then nI (t p - 48) else -1 := by
  have := ht p
  unfold f_X1_digitAt
  rw [sign_c hO hL hp]
  by_cases d : p < L
  · rw [if_pos d]
    have q1 : nI (t p) < 48 ↔ t p < 48 := nI_ltI (b := 48) (by omega) (by decide)
    have q2 : 57 < nI (t p) ↔ 57 < t p := nI_ltI (a := 57) (by decide) (by omega)
    by_cases c1 : t p < 48
    · rw [if_pos (q1.mpr c1), if_neg (fun z => by have := isD_i.mp z; omega)]
    · rw [if_neg (fun z => c1 (q1.mp z))]
      by_cases c2 : 57 < t p
      · rw [if_pos (q2.mpr c2), if_neg (fun z => by have := isD_i.mp z; omega)]
      · rw [if_neg (fun z => c2 (q2.mp z)), if_pos (isD_i.mpr ⟨d, by omega, by omega⟩)]
        exact pk_sub (b := 48) (by omega)
  · rw [if_neg d, if_pos (show (-1 : Int32) < 48 by decide), if_neg (fun z => d (isD_i.mp z).1)]
theorem rsign {O : CS} (hO : CX t L O) (hL : L ≤ 80) (ht : ∀ i, t i < 65536) {p c : Nat} (hp : p < 2 ^ 31) (hc : c < 2 ^ 31) (e : O.1 2 = nI p) : f_X1_readSign O (nI c) = if tq t L p c = true then (true, setI O 2 (nI (p + 1))) else (false, O) := by
  unfold f_X1_readSign
  rw [e]
  have q := signq hO hL ht hp hc
  simp only [bind1]
  by_cases d : tq t L p c = true
  · rw [if_pos (q.mpr d), if_pos d, nI_1]
  · rw [if_neg (fun z => d (q.mp z)), if_neg d]
/-- the same but for the place -/
def cP (O O' : CS) (p : Nat) : Prop := (∀ j, j ≠ 2 → O'.1 j = O.1 j) ∧ O'.1 2 = nI p
theorem CX.cP {O O' : CS} {p : Nat} (h : CX t L O) (c : cP O O' p) (e : O'.2 0 = O.2 0) : CX t L O' := ⟨(c.1 1 (by decide)).trans h.1, fun i hi => by rw [e]; exact h.2 i hi⟩
theorem cP.trans {O O' O'' : CS} {p q : Nat} (h : cP O O' p) (h2 : cP O' O'' q) : cP O O'' q := ⟨fun j a => (h2.1 j a).trans (h.1 j a), h2.2⟩
theorem cP.set (O : CS) (p : Nat) : cP O (setI O 2 (nI p)) p := ⟨fun _ a => setI_n O _ a, setI_s _ _ _⟩
theorem more_n {m : Nat} (hL : L ≤ 80) (ht : ∀ i, t i < 65536) (hm : m ≤ 30) : ∀ (n p v : Nat) (O : CS), CX t L O → O.1 2 = nI p → L < n + p → v ≤ m → p ≤ L → ol_X1_readMoreDigits_2 (nI m) n O (nI v) ∧ (l_X1_readMoreDigits_2 (nI m) n O (nI v)).1 = nI (md t L m n p v).1 ∧ cP O (l_X1_readMoreDigits_2 (nI m) n O (nI v)).2 (md t L m n p v).2 ∧ (l_X1_readMoreDigits_2 (nI m) n O (nI v)).2.2 = O.2 := by
  intro n
  induction n with
  | zero => intro p v O h1 h2 h3; omega
  | succ n ih =>
    intro p v O hO e h3 h4 h5
    rw [ol_X1_readMoreDigits_2, l_X1_readMoreDigits_2, md]
    rw [e, hO.1, dig_n hO hL ht (by omega)]
    have tp := ht p
    have q : nI p < nI L ↔ p < L := nI_ltI (by omega) (by omega)
    by_cases c : p < L
    · rw [if_pos (q.mpr c)]
      by_cases d : isD t L p = true
      · have dd := isD_i.mp d
        have l0 : ¬ nI (t p - 48) < 0 := nI_pos (by omega)
        have e2 : (nI v * 10) + nI (t p - 48) = nI (10 * v + (t p - 48)) := by
          rw [show (10 : Int32) = nI 10 from rfl, pk_mul, nI_add, Nat.mul_comm]
        have q2 : nI m < nI (10 * v + (t p - 48)) ↔ m < 10 * v + (t p - 48) := nI_ltI (by omega) (by omega)
        rw [if_pos d, if_neg l0, e2]
        by_cases y : m < 10 * v + (t p - 48)
        · rw [if_pos (q2.mpr y), if_neg (show ¬ (isD t L p = true ∧ 10 * v + (t p - 48) ≤ m) from fun z => by omega)]
          exact ⟨⟨fun _ => ⟨fun _ => trivial, fun _ => ⟨fun _ => trivial, fun k => absurd (q2.mpr y) k⟩⟩, fun k => absurd (q.mpr c) k⟩, rfl, ⟨fun _ _ => rfl, e⟩, rfl⟩
        · obtain ⟨o, a1, a2, a3⟩ := ih (p + 1) (10 * v + (t p - 48)) (setI O 2 (nI p + 1)) (hO.cP (p := p + 1) ⟨fun j hj => setI_n O _ hj, by rw [setI_s]; exact nI_1 p⟩ rfl) (by rw [setI_s]; exact nI_1 p) (by omega) (by omega) (by omega)
          simp only [bind1]
          rw [if_neg (fun z => y (q2.mp z)), if_pos (show isD t L p = true ∧ 10 * v + (t p - 48) ≤ m from ⟨d, by omega⟩)]
          exact ⟨⟨fun _ => ⟨fun _ => trivial, fun _ => ⟨fun k => absurd (q2.mp k) y, fun _ => o⟩⟩, fun k => absurd (q.mpr c) k⟩, a1, ⟨fun j hj => (a2.1 j hj).trans (setI_n O _ hj), a2.2⟩, a3⟩
      · rw [if_neg d, if_pos (show (-1 : Int32) < 0 by decide), if_neg (show ¬ (isD t L p = true ∧ 10 * v + (t p - 48) ≤ m) from fun z => d z.1)]
        exact ⟨⟨fun _ => ⟨fun _ => trivial, fun k => absurd (show (-1 : Int32) < 0 by decide) k⟩, fun k => absurd (q.mpr c) k⟩, rfl, ⟨fun _ _ => rfl, e⟩, rfl⟩
    · rw [if_neg (fun z => c (q.mp z)), if_neg (show ¬ (isD t L p = true ∧ 10 * v + (t p - 48) ≤ m) from fun z => c (isD_i.mp z.1).1)]
      exact ⟨⟨fun k => absurd (q.mp k) c, fun _ => trivial⟩, rfl, ⟨fun _ _ => rfl, e⟩, rfl⟩
theorem NU_le {m p : Nat} (hp : p ≤ L) : p ≤ (NU t L m p).2.2 ∧ (NU t L m p).2.2 ≤ L ∧ (NU t L m p).2.1 ≤ m ∧ ((NU t L m p).1 = true → p + 2 ≤ (NU t L m p).2.2) := by
  unfold NU
  by_cases a : tq t L p 32 = true
  · have ha := tq_i.mp a
    rw [if_pos a]
    by_cases b : isD t L (p + 1) = true ∧ t (p + 1) - 48 ≤ m
    · have hb := isD_i.mp b.1
      rw [if_pos b]
      by_cases c : 0 < t (p + 1) - 48
      · rw [if_pos c]
        obtain ⟨x, y, z⟩ := md_le (t := t) (L := L) m 82 (p + 2) (t (p + 1) - 48) (by omega) b.2
        exact ⟨by show p ≤ (md t L m 82 (p + 2) (t (p + 1) - 48)).2; omega, y, z, fun _ => x⟩
      · rw [if_neg c]
        exact ⟨by show p ≤ p + 2; omega, by show p + 2 ≤ L; omega, Nat.zero_le _, fun _ => Nat.le_refl _⟩
    · rw [if_neg b]
      exact ⟨by show p ≤ p + 1; omega, by show p + 1 ≤ L; omega, Nat.zero_le _, fun k => (by cases k)⟩
  · rw [if_neg a]
    exact ⟨Nat.le_refl _, hp, Nat.zero_le _, fun k => (by cases k)⟩
theorem num5_n {O : CS} {m p z : Nat} (hO : CX t L O) (hL : L ≤ 80) (ht : ∀ i, t i < 65536) (hm : m ≤ 30) (hp : p ≤ L) (hz : z < 16) (e : O.1 2 = nI p) (ez : O.1 3 = nI z) : o_X1_readNumber5 O (nI m) ∧ (f_X1_readNumber5 O (nI m)).1 = (NU t L m p).1 ∧ cP O (f_X1_readNumber5 O (nI m)).2 (NU t L m p).2.2 ∧ (∀ j, j ≠ 5 → (f_X1_readNumber5 O (nI m)).2.2 j = O.2 j) ∧ ((NU t L m p).1 = true → (f_X1_readNumber5 O (nI m)).2.2 5 = upd (O.2 5) z (nI (NU t L m p).2.1)) := by
  unfold o_X1_readNumber5 f_X1_readNumber5 NU
  rw [show (32 : Int32) = nI 32 from rfl, rsign hO hL ht (by omega) (by decide) e]
  by_cases a : tq t L p 32 = true
  · have ha := tq_i.mp a
    rw [if_pos a, if_pos a]
    have c1 := cP.set O (p + 1)
    have h1 : CX t L (setI O 2 (nI (p + 1))) := hO.cP c1 rfl
    have z1 : (setI O 2 (nI (p + 1))).1 3 = nI z := (c1.1 3 (by decide)).trans ez
    have y2 : (setI O 2 (nI (p + 1))).2 = O.2 := rfl
    generalize setI O 2 (nI (p + 1)) = O1 at *
    simp only [bind1]
    rw [if_pos trivial, c1.2, dig_n h1 hL ht (by omega)]
    have tp := ht (p + 1)
    by_cases d : isD t L (p + 1) = true
    · have hd := isD_i.mp d
      have l0 : ¬ nI (t (p + 1) - 48) < 0 := nI_pos (by omega)
      have q2 : nI m < nI (t (p + 1) - 48) ↔ m < t (p + 1) - 48 := nI_ltI (by omega) (by omega)
      have q3 : (0 < nI (t (p + 1) - 48)) ↔ 0 < t (p + 1) - 48 := nI_ltI (a := 0) (by decide) (by omega)
      rw [if_pos d, if_neg l0]
      by_cases y : m < t (p + 1) - 48
      · rw [if_pos (q2.mpr y), if_neg (show ¬ (isD t L (p + 1) = true ∧ t (p + 1) - 48 ≤ m) from fun k => by omega)]
        exact ⟨⟨fun _ => ⟨fun _ => trivial, fun _ => ⟨fun _ => trivial, fun k => absurd (q2.mpr y) k⟩⟩, fun k => absurd trivial k⟩, rfl, c1, fun j _ => congrFun y2 j, fun k => (by cases k)⟩
      · have c2 : cP O (setI O1 2 (nI (p + 1) + 1)) (p + 2) := c1.trans ⟨fun j hj => setI_n O1 _ hj, by rw [setI_s]; exact nI_1 (p + 1)⟩
        have h2 : CX t L (setI O1 2 (nI (p + 1) + 1)) := hO.cP c2 (congrFun y2 0)
        have z2 : (setI O1 2 (nI (p + 1) + 1)).1 3 = nI z := (c2.1 3 (by decide)).trans ez
        have y3 : (setI O1 2 (nI (p + 1) + 1)).2 = O.2 := y2
        generalize setI O1 2 (nI (p + 1) + 1) = O2 at *
        rw [if_neg (fun k => y (q2.mp k)), if_pos (show isD t L (p + 1) = true ∧ t (p + 1) - 48 ≤ m from ⟨d, by omega⟩)]
        by_cases x : 0 < t (p + 1) - 48
        · obtain ⟨o, a1, a2, a3⟩ := more_n hL ht hm 82 (p + 2) (t (p + 1) - 48) O2 h2 c2.2 (by omega) (by omega) (by omega)
          have o : o_X1_readMoreDigits O2 (nI (t (p + 1) - 48)) (nI m) := o
          have a1 : (f_X1_readMoreDigits O2 (nI (t (p + 1) - 48)) (nI m)).1 = _ := a1
          have a2 : cP O2 (f_X1_readMoreDigits O2 (nI (t (p + 1) - 48)) (nI m)).2 _ := a2
          have a3 : (f_X1_readMoreDigits O2 (nI (t (p + 1) - 48)) (nI m)).2.2 = _ := a3
          rw [if_pos (q3.mpr x), if_pos x]
          generalize f_X1_readMoreDigits O2 (nI (t (p + 1) - 48)) (nI m) = Y at *
          have z3 : Y.2.1 3 = nI z := (a2.1 3 (by decide)).trans z2
          rw [z3, put_n _ _ hz (by decide), a1]
          refine ⟨⟨fun _ => ⟨fun k => absurd k l0, fun _ => ⟨fun k => absurd (q2.mp k) y, fun _ => ⟨fun _ => ⟨o, trivial⟩, fun k => absurd (q3.mpr x) k⟩⟩⟩, fun k => absurd trivial k⟩, rfl, c2.trans a2, fun j hj => (setF_n Y.2 _ hj).trans ((congrFun a3 j).trans (congrFun y3 j)), fun _ => ?_⟩
          rw [setF_s, a3, y3]
        · have v0 : t (p + 1) - 48 = 0 := by omega
          rw [if_neg (fun k => x (q3.mp k)), if_neg x, z2, put_n _ _ hz (by decide)]
          refine ⟨⟨fun _ => ⟨fun k => absurd k l0, fun _ => ⟨fun k => absurd (q2.mp k) y, fun _ => ⟨fun k => absurd (q3.mp k) x, fun _ => trivial⟩⟩⟩, fun k => absurd trivial k⟩, rfl, c2, fun j hj => (setF_n O2 _ hj).trans (congrFun y3 j), fun _ => ?_⟩
          rw [setF_s, y3, v0]
    · rw [if_neg d, if_pos (show (-1 : Int32) < 0 by decide), if_neg (show ¬ (isD t L (p + 1) = true ∧ t (p + 1) - 48 ≤ m) from fun k => d k.1)]
      exact ⟨⟨fun _ => ⟨fun _ => trivial, fun k => absurd (show (-1 : Int32) < 0 by decide) k⟩, fun k => absurd trivial k⟩, rfl, c1, fun j _ => congrFun y2 j, fun k => (by cases k)⟩
  · rw [if_neg a, if_neg a]
    exact ⟨⟨fun k => (by cases k), fun _ => trivial⟩, rfl, ⟨fun _ _ => rfl, e⟩, fun _ _ => rfl, fun k => (by cases k)⟩
theorem num6_n {O : CS} {m p z : Nat} (hO : CX t L O) (hL : L ≤ 80) (ht : ∀ i, t i < 65536) (hm : m ≤ 30) (hp : p ≤ L) (hz : z < 16) (e : O.1 2 = nI p) (ez : O.1 3 = nI z) : o_X1_readNumber6 O (nI m) ∧ (f_X1_readNumber6 O (nI m)).1 = (NU t L m p).1 ∧ cP O (f_X1_readNumber6 O (nI m)).2 (NU t L m p).2.2 ∧ (∀ j, j ≠ 6 → (f_X1_readNumber6 O (nI m)).2.2 j = O.2 j) ∧ ((NU t L m p).1 = true → (f_X1_readNumber6 O (nI m)).2.2 6 = upd (O.2 6) z (nI (NU t L m p).2.1)) := by
  unfold o_X1_readNumber6 f_X1_readNumber6 NU
  rw [show (32 : Int32) = nI 32 from rfl, rsign hO hL ht (by omega) (by decide) e]
  by_cases a : tq t L p 32 = true
  · have ha := tq_i.mp a
    rw [if_pos a, if_pos a]
    have c1 := cP.set O (p + 1)
    have h1 : CX t L (setI O 2 (nI (p + 1))) := hO.cP c1 rfl
    have z1 : (setI O 2 (nI (p + 1))).1 3 = nI z := (c1.1 3 (by decide)).trans ez
    have y2 : (setI O 2 (nI (p + 1))).2 = O.2 := rfl
    generalize setI O 2 (nI (p + 1)) = O1 at *
    simp only [bind1]
    rw [if_pos trivial, c1.2, dig_n h1 hL ht (by omega)]
    have tp := ht (p + 1)
    by_cases d : isD t L (p + 1) = true
    · have hd := isD_i.mp d
      have l0 : ¬ nI (t (p + 1) - 48) < 0 := nI_pos (by omega)
      have q2 : nI m < nI (t (p + 1) - 48) ↔ m < t (p + 1) - 48 := nI_ltI (by omega) (by omega)
      have q3 : (0 < nI (t (p + 1) - 48)) ↔ 0 < t (p + 1) - 48 := nI_ltI (a := 0) (by decide) (by omega)
      rw [if_pos d, if_neg l0]
      by_cases y : m < t (p + 1) - 48
      · rw [if_pos (q2.mpr y), if_neg (show ¬ (isD t L (p + 1) = true ∧ t (p + 1) - 48 ≤ m) from fun k => by omega)]
        exact ⟨⟨fun _ => ⟨fun _ => trivial, fun _ => ⟨fun _ => trivial, fun k => absurd (q2.mpr y) k⟩⟩, fun k => absurd trivial k⟩, rfl, c1, fun j _ => congrFun y2 j, fun k => (by cases k)⟩
      · have c2 : cP O (setI O1 2 (nI (p + 1) + 1)) (p + 2) := c1.trans ⟨fun j hj => setI_n O1 _ hj, by rw [setI_s]; exact nI_1 (p + 1)⟩
        have h2 : CX t L (setI O1 2 (nI (p + 1) + 1)) := hO.cP c2 (congrFun y2 0)
        have z2 : (setI O1 2 (nI (p + 1) + 1)).1 3 = nI z := (c2.1 3 (by decide)).trans ez
        have y3 : (setI O1 2 (nI (p + 1) + 1)).2 = O.2 := y2
        generalize setI O1 2 (nI (p + 1) + 1) = O2 at *
        rw [if_neg (fun k => y (q2.mp k)), if_pos (show isD t L (p + 1) = true ∧ t (p + 1) - 48 ≤ m from ⟨d, by omega⟩)]
        by_cases x : 0 < t (p + 1) - 48
        · obtain ⟨o, a1, a2, a3⟩ := more_n hL ht hm 82 (p + 2) (t (p + 1) - 48) O2 h2 c2.2 (by omega) (by omega) (by omega)
          have o : o_X1_readMoreDigits O2 (nI (t (p + 1) - 48)) (nI m) := o
          have a1 : (f_X1_readMoreDigits O2 (nI (t (p + 1) - 48)) (nI m)).1 = _ := a1
          have a2 : cP O2 (f_X1_readMoreDigits O2 (nI (t (p + 1) - 48)) (nI m)).2 _ := a2
          have a3 : (f_X1_readMoreDigits O2 (nI (t (p + 1) - 48)) (nI m)).2.2 = _ := a3
          rw [if_pos (q3.mpr x), if_pos x]
          generalize f_X1_readMoreDigits O2 (nI (t (p + 1) - 48)) (nI m) = Y at *
          have z3 : Y.2.1 3 = nI z := (a2.1 3 (by decide)).trans z2
          rw [z3, put_n _ _ hz (by decide), a1]
          refine ⟨⟨fun _ => ⟨fun k => absurd k l0, fun _ => ⟨fun k => absurd (q2.mp k) y, fun _ => ⟨fun _ => ⟨o, trivial⟩, fun k => absurd (q3.mpr x) k⟩⟩⟩, fun k => absurd trivial k⟩, rfl, c2.trans a2, fun j hj => (setF_n Y.2 _ hj).trans ((congrFun a3 j).trans (congrFun y3 j)), fun _ => ?_⟩
          rw [setF_s, a3, y3]
        · have v0 : t (p + 1) - 48 = 0 := by omega
          rw [if_neg (fun k => x (q3.mp k)), if_neg x, z2, put_n _ _ hz (by decide)]
          refine ⟨⟨fun _ => ⟨fun k => absurd k l0, fun _ => ⟨fun k => absurd (q2.mp k) y, fun _ => ⟨fun k => absurd (q3.mp k) x, fun _ => trivial⟩⟩⟩, fun k => absurd trivial k⟩, rfl, c2, fun j hj => (setF_n O2 _ hj).trans (congrFun y3 j), fun _ => ?_⟩
          rw [setF_s, y3, v0]
    · rw [if_neg d, if_pos (show (-1 : Int32) < 0 by decide), if_neg (show ¬ (isD t L (p + 1) = true ∧ t (p + 1) - 48 ≤ m) from fun k => d k.1)]
      exact ⟨⟨fun _ => ⟨fun _ => trivial, fun k => absurd (show (-1 : Int32) < 0 by decide) k⟩, fun k => absurd trivial k⟩, rfl, c1, fun j _ => congrFun y2 j, fun k => (by cases k)⟩
  · rw [if_neg a, if_neg a]
    exact ⟨⟨fun k => (by cases k), fun _ => trivial⟩, rfl, ⟨fun _ _ => rfl, e⟩, fun _ _ => rfl, fun k => (by cases k)⟩
theorem num7_n {O : CS} {m p z : Nat} (hO : CX t L O) (hL : L ≤ 80) (ht : ∀ i, t i < 65536) (hm : m ≤ 30) (hp : p ≤ L) (hz : z < 16) (e : O.1 2 = nI p) (ez : O.1 3 = nI z) : o_X1_readNumber7 O (nI m) ∧ (f_X1_readNumber7 O (nI m)).1 = (NU t L m p).1 ∧ cP O (f_X1_readNumber7 O (nI m)).2 (NU t L m p).2.2 ∧ (∀ j, j ≠ 7 → (f_X1_readNumber7 O (nI m)).2.2 j = O.2 j) ∧ ((NU t L m p).1 = true → (f_X1_readNumber7 O (nI m)).2.2 7 = upd (O.2 7) z (nI (NU t L m p).2.1)) := by
  unfold o_X1_readNumber7 f_X1_readNumber7 NU
  rw [show (32 : Int32) = nI 32 from rfl, rsign hO hL ht (by omega) (by decide) e]
  by_cases a : tq t L p 32 = true
  · have ha := tq_i.mp a
    rw [if_pos a, if_pos a]
    have c1 := cP.set O (p + 1)
    have h1 : CX t L (setI O 2 (nI (p + 1))) := hO.cP c1 rfl
    have z1 : (setI O 2 (nI (p + 1))).1 3 = nI z := (c1.1 3 (by decide)).trans ez
    have y2 : (setI O 2 (nI (p + 1))).2 = O.2 := rfl
    generalize setI O 2 (nI (p + 1)) = O1 at *
    simp only [bind1]
    rw [if_pos trivial, c1.2, dig_n h1 hL ht (by omega)]
    have tp := ht (p + 1)
    by_cases d : isD t L (p + 1) = true
    · have hd := isD_i.mp d
      have l0 : ¬ nI (t (p + 1) - 48) < 0 := nI_pos (by omega)
      have q2 : nI m < nI (t (p + 1) - 48) ↔ m < t (p + 1) - 48 := nI_ltI (by omega) (by omega)
      have q3 : (0 < nI (t (p + 1) - 48)) ↔ 0 < t (p + 1) - 48 := nI_ltI (a := 0) (by decide) (by omega)
      rw [if_pos d, if_neg l0]
      by_cases y : m < t (p + 1) - 48
      · rw [if_pos (q2.mpr y), if_neg (show ¬ (isD t L (p + 1) = true ∧ t (p + 1) - 48 ≤ m) from fun k => by omega)]
        exact ⟨⟨fun _ => ⟨fun _ => trivial, fun _ => ⟨fun _ => trivial, fun k => absurd (q2.mpr y) k⟩⟩, fun k => absurd trivial k⟩, rfl, c1, fun j _ => congrFun y2 j, fun k => (by cases k)⟩
      · have c2 : cP O (setI O1 2 (nI (p + 1) + 1)) (p + 2) := c1.trans ⟨fun j hj => setI_n O1 _ hj, by rw [setI_s]; exact nI_1 (p + 1)⟩
        have h2 : CX t L (setI O1 2 (nI (p + 1) + 1)) := hO.cP c2 (congrFun y2 0)
        have z2 : (setI O1 2 (nI (p + 1) + 1)).1 3 = nI z := (c2.1 3 (by decide)).trans ez
        have y3 : (setI O1 2 (nI (p + 1) + 1)).2 = O.2 := y2
        generalize setI O1 2 (nI (p + 1) + 1) = O2 at *
        rw [if_neg (fun k => y (q2.mp k)), if_pos (show isD t L (p + 1) = true ∧ t (p + 1) - 48 ≤ m from ⟨d, by omega⟩)]
        by_cases x : 0 < t (p + 1) - 48
        · obtain ⟨o, a1, a2, a3⟩ := more_n hL ht hm 82 (p + 2) (t (p + 1) - 48) O2 h2 c2.2 (by omega) (by omega) (by omega)
          have o : o_X1_readMoreDigits O2 (nI (t (p + 1) - 48)) (nI m) := o
          have a1 : (f_X1_readMoreDigits O2 (nI (t (p + 1) - 48)) (nI m)).1 = _ := a1
          have a2 : cP O2 (f_X1_readMoreDigits O2 (nI (t (p + 1) - 48)) (nI m)).2 _ := a2
          have a3 : (f_X1_readMoreDigits O2 (nI (t (p + 1) - 48)) (nI m)).2.2 = _ := a3
          rw [if_pos (q3.mpr x), if_pos x]
          generalize f_X1_readMoreDigits O2 (nI (t (p + 1) - 48)) (nI m) = Y at *
          have z3 : Y.2.1 3 = nI z := (a2.1 3 (by decide)).trans z2
          rw [z3, put_n _ _ hz (by decide), a1]
          refine ⟨⟨fun _ => ⟨fun k => absurd k l0, fun _ => ⟨fun k => absurd (q2.mp k) y, fun _ => ⟨fun _ => ⟨o, trivial⟩, fun k => absurd (q3.mpr x) k⟩⟩⟩, fun k => absurd trivial k⟩, rfl, c2.trans a2, fun j hj => (setF_n Y.2 _ hj).trans ((congrFun a3 j).trans (congrFun y3 j)), fun _ => ?_⟩
          rw [setF_s, a3, y3]
        · have v0 : t (p + 1) - 48 = 0 := by omega
          rw [if_neg (fun k => x (q3.mp k)), if_neg x, z2, put_n _ _ hz (by decide)]
          refine ⟨⟨fun _ => ⟨fun k => absurd k l0, fun _ => ⟨fun k => absurd (q2.mp k) y, fun _ => ⟨fun k => absurd (q3.mp k) x, fun _ => trivial⟩⟩⟩, fun k => absurd trivial k⟩, rfl, c2, fun j hj => (setF_n O2 _ hj).trans (congrFun y3 j), fun _ => ?_⟩
          rw [setF_s, y3, v0]
    · rw [if_neg d, if_pos (show (-1 : Int32) < 0 by decide), if_neg (show ¬ (isD t L (p + 1) = true ∧ t (p + 1) - 48 ≤ m) from fun k => d k.1)]
      exact ⟨⟨fun _ => ⟨fun _ => trivial, fun k => absurd (show (-1 : Int32) < 0 by decide) k⟩, fun k => absurd trivial k⟩, rfl, c1, fun j _ => congrFun y2 j, fun k => (by cases k)⟩
  · rw [if_neg a, if_neg a]
    exact ⟨⟨fun k => (by cases k), fun _ => trivial⟩, rfl, ⟨fun _ _ => rfl, e⟩, fun _ _ => rfl, fun k => (by cases k)⟩
end RDR
