/-! PURE PART. the class reads cells and words -/
section CEL
variable {t : Nat → Nat} {L : Nat}
theorem or_nz {x : Int32} {d : Nat} (hd : d < 32) : ¬ (x ||| f_X4_of (nI d)) = 0 := fun z => by
  have h := bt_or x (f_X4_of (nI d)) d
  rw [z, bt_0, bt_of hd hd] at h
  simp at h
theorem cl_nz : ∀ (n p lo : Nat) (x : Int32), ¬ x = 0 → ¬ (cl t L n p lo x).1 = 0 := by
  intro n
  induction n with
  | zero => intro p lo x h; exact h
  | succ n ih =>
    intro p lo x h
    rw [cl]
    by_cases c : p < L ∧ 48 + lo ≤ t p ∧ t p ≤ 55
    · rw [if_pos c]
      exact ih _ _ _ (or_nz (by omega))
    · rw [if_neg c]
      exact h
theorem cl_le : ∀ (n p lo : Nat) (x : Int32), p ≤ L → p ≤ (cl t L n p lo x).2 ∧ (cl t L n p lo x).2 ≤ L := by
  intro n
  induction n with
  | zero => intro p lo x h; exact ⟨Nat.le_refl _, h⟩
  | succ n ih =>
    intro p lo x h
    rw [cl]
    by_cases c : p < L ∧ 48 + lo ≤ t p ∧ t p ≤ 55
    · rw [if_pos c]
      obtain ⟨a, b⟩ := ih (p + 1) (t p - 48 + 1) (x ||| f_X4_of (nI (t p - 48))) (by omega)
      exact ⟨by omega, b⟩
    · rw [if_neg c]
      exact ⟨Nat.le_refl _, h⟩
theorem CE_le {p : Nat} (hp : p ≤ L) : p ≤ (CE t L p).2.2 ∧ (CE t L p).2.2 ≤ L ∧ ((CE t L p).1 = true → p + 2 ≤ (CE t L p).2.2) := by
  unfold CE
  by_cases a : tq t L p 32 = true
  · have ha := tq_i.mp a
    rw [if_pos a]
    by_cases b : p + 1 < L ∧ 48 ≤ t (p + 1) ∧ t (p + 1) ≤ 55
    · rw [if_pos b]
      have e : cl t L 10 (p + 1) 0 0 = cl t L 9 (p + 1 + 1) (t (p + 1) - 48 + 1) (0 ||| f_X4_of (nI (t (p + 1) - 48))) := by
        rw [show (10 : Nat) = 9 + 1 from rfl, cl, if_pos (show p + 1 < L ∧ 48 + 0 ≤ t (p + 1) ∧ t (p + 1) ≤ 55 from b)]
      obtain ⟨x, y⟩ := cl_le (t := t) (L := L) 9 (p + 1 + 1) (t (p + 1) - 48 + 1) (0 ||| f_X4_of (nI (t (p + 1) - 48))) (by omega)
      rw [← e] at x y
      exact ⟨by show p ≤ (cl t L 10 (p + 1) 0 0).2; omega, y, fun _ => x⟩
    · rw [if_neg b]
      exact ⟨by show p ≤ p + 1; omega, by show p + 1 ≤ L; omega, fun k => (by cases k)⟩
  · rw [if_neg a]
    exact ⟨Nat.le_refl _, hp, fun k => (by cases k)⟩
theorem cells_l (hL : L ≤ 80) (ht : ∀ i, t i < 65536) : ∀ (n p lo : Nat) (x : Int32) (O : CS), CX t L O → O.1 2 = nI p → 8 < n + lo → lo ≤ 8 → p ≤ L → ol_X1_readCells_15 n O x (nI lo) ∧ ∃ O', cP O O' (cl t L n p lo x).2 ∧ O'.2 = O.2 ∧ l_X1_readCells_15 n O x (nI lo) = k_X1_readCells_73 O' (cl t L n p lo x).1 := by
  intro n
  induction n with
  | zero => intro p lo x O h1 h2 h3 h4; omega
  | succ n ih =>
    intro p lo x O hO e h3 h4 h5
    have tp := ht p
    have q : nI p < nI L ↔ p < L := nI_ltI (by omega) (by omega)
    have ot : ∀ {O : CS} {x : Int32}, ok_X1_readCells_73 O x := ⟨fun _ => trivial, fun _ => trivial⟩
    rw [ol_X1_readCells_15, l_X1_readCells_15, cl]
    rw [e, hO.1, dig_n hO hL ht (by omega)]
    by_cases c : p < L
    · rw [if_pos (q.mpr c)]
      by_cases d : isD t L p = true
      · have dd := isD_i.mp d
        have q2 : nI (t p - 48) < nI lo ↔ t p - 48 < lo := nI_ltI (by omega) (by omega)
        have q3 : nI (t p - 48) < 8 ↔ t p - 48 < 8 := nI_ltI (b := 8) (by omega) (by decide)
        rw [if_pos d]
        by_cases y : t p - 48 < lo
        · rw [if_pos (q2.mpr y), if_neg (show ¬ (p < L ∧ 48 + lo ≤ t p ∧ t p ≤ 55) from fun k => by omega)]
          exact ⟨⟨fun _ => ⟨fun _ => ot, fun k => absurd (q2.mpr y) k⟩, fun k => absurd (q.mpr c) k⟩, O, ⟨fun _ _ => rfl, e⟩, rfl, rfl⟩
        · rw [if_neg (fun k => y (q2.mp k))]
          by_cases w : t p - 48 < 8
          · have c1 : cP O (setI O 2 (nI p + 1)) (p + 1) := ⟨fun j hj => setI_n O _ hj, by rw [setI_s]; exact nI_1 p⟩
            obtain ⟨o, O', a1, a2, a3⟩ := ih (p + 1) (t p - 48 + 1) (x ||| f_X4_of (nI (t p - 48))) (setI O 2 (nI p + 1)) (hO.cP c1 rfl) c1.2 (by omega) (by omega) (by omega)
            have e1 : nI (t p - 48) + 1 = nI (t p - 48 + 1) := nI_1 _
            simp only [bind1]
            rw [if_pos (q3.mpr w), if_pos (show p < L ∧ 48 + lo ≤ t p ∧ t p ≤ 55 from ⟨c, by omega, by omega⟩), e1]
            exact ⟨⟨fun _ => ⟨fun k => absurd (q2.mp k) y, fun _ => ⟨fun _ => o, fun k => absurd (q3.mpr w) k⟩⟩, fun k => absurd (q.mpr c) k⟩, O', c1.trans a1, a2, a3⟩
          · rw [if_neg (fun k => w (q3.mp k)), if_neg (show ¬ (p < L ∧ 48 + lo ≤ t p ∧ t p ≤ 55) from fun k => by omega)]
            exact ⟨⟨fun _ => ⟨fun k => absurd (q2.mp k) y, fun _ => ⟨fun k => absurd (q3.mp k) w, fun _ => ot⟩⟩, fun k => absurd (q.mpr c) k⟩, O, ⟨fun _ _ => rfl, e⟩, rfl, rfl⟩
      · have l0 : (-1 : Int32) < nI lo := by
          rw [Int32.lt_iff_toInt_lt, nI_toInt (by omega)]
          have : (-1 : Int32).toInt = -1 := by decide
          omega
        rw [if_neg d, if_pos l0, if_neg (show ¬ (p < L ∧ 48 + lo ≤ t p ∧ t p ≤ 55) from fun k => d (isD_i.mpr ⟨k.1, by omega, by omega⟩))]
        exact ⟨⟨fun _ => ⟨fun _ => ot, fun k => absurd l0 k⟩, fun k => absurd (q.mpr c) k⟩, O, ⟨fun _ _ => rfl, e⟩, rfl, rfl⟩
    · rw [if_neg (fun z => c (q.mp z)), if_neg (show ¬ (p < L ∧ 48 + lo ≤ t p ∧ t p ≤ 55) from fun k => c k.1)]
      exact ⟨⟨fun k => absurd (q.mp k) c, fun _ => ot⟩, O, ⟨fun _ _ => rfl, e⟩, rfl, rfl⟩
theorem cells_n {O : CS} {p z : Nat} (hO : CX t L O) (hL : L ≤ 80) (ht : ∀ i, t i < 65536) (hp : p ≤ L) (hz : z < 16) (e : O.1 2 = nI p) (ez : O.1 3 = nI z) : o_X1_readCells O ∧ (f_X1_readCells O).1 = (CE t L p).1 ∧ cP O (f_X1_readCells O).2 (CE t L p).2.2 ∧ (∀ j, j ≠ 7 → (f_X1_readCells O).2.2 j = O.2 j) ∧ ((CE t L p).1 = true → (f_X1_readCells O).2.2 7 = upd (O.2 7) z (CE t L p).2.1) := by
  unfold o_X1_readCells f_X1_readCells CE
  rw [show (32 : Int32) = nI 32 from rfl, rsign hO hL ht (by omega) (by decide) e]
  by_cases a : tq t L p 32 = true
  · have ha := tq_i.mp a
    rw [if_pos a, if_pos a]
    have c1 := cP.set O (p + 1)
    have h1 : CX t L (setI O 2 (nI (p + 1))) := hO.cP c1 rfl
    have z1 : (setI O 2 (nI (p + 1))).1 3 = nI z := (c1.1 3 (by decide)).trans ez
    have y2 : (setI O 2 (nI (p + 1))).2 = O.2 := rfl
    generalize setI O 2 (nI (p + 1)) = O1 at *
    obtain ⟨o, O', a1, a2, a3⟩ := cells_l hL ht 10 (p + 1) 0 0 O1 h1 c1.2 (by decide) (by decide) (by omega)
    have o : ol_X1_readCells_15 10 O1 0 0 := o
    have a3 : l_X1_readCells_15 10 O1 0 0 = _ := a3
    simp only [bind1]
    rw [if_pos trivial, a3]
    unfold k_X1_readCells_73
    simp only [bind1]
    have z2 : O'.1 3 = nI z := (a1.1 3 (by decide)).trans z1
    rw [z2, put_n _ _ hz (by decide), a2, y2]
    by_cases b : p + 1 < L ∧ 48 ≤ t (p + 1) ∧ t (p + 1) ≤ 55
    · have nz : ¬ (cl t L 10 (p + 1) 0 0).1 = 0 := by
        rw [show (10 : Nat) = 9 + 1 from rfl, cl, if_pos (show p + 1 < L ∧ 48 + 0 ≤ t (p + 1) ∧ t (p + 1) ≤ 55 from b)]
        exact cl_nz _ _ _ _ (or_nz (by omega))
      rw [if_neg nz, if_pos b]
      exact ⟨⟨fun _ => o, fun k => absurd trivial k⟩, rfl, c1.trans a1, fun j hj => (setF_n O' _ hj).trans (by rw [a2, y2]), fun _ => setF_s _ _ _⟩
    · have e0 : cl t L 10 (p + 1) 0 0 = (0, p + 1) := by
        rw [show (10 : Nat) = 9 + 1 from rfl, cl, if_neg (show ¬ (p + 1 < L ∧ 48 + 0 ≤ t (p + 1) ∧ t (p + 1) ≤ 55) from b)]
      rw [e0] at a1 ⊢
      rw [if_pos rfl, if_neg b]
      exact ⟨⟨fun _ => o, fun k => absurd trivial k⟩, rfl, c1.trans a1, fun j hj => (setF_n O' _ hj).trans (by rw [a2, y2]), fun k => (by cases k)⟩
  · rw [if_neg a, if_neg a]
    exact ⟨⟨fun k => (by cases k), fun _ => trivial⟩, rfl, ⟨fun _ _ => rfl, e⟩, fun _ _ => rfl, fun k => (by cases k)⟩
/-! words -/
theorem al_le (f : Nat → Nat) (p : Nat) : ∀ (r i : Nat), al t L f p r i ≤ r ∧ (p + i ≤ L → p + i + al t L f p r i ≤ L) := by
  intro r
  induction r with
  | zero => intro i; exact ⟨Nat.le_refl _, fun h => h⟩
  | succ r ih =>
    intro i
    rw [al]
    by_cases c : tq t L (p + i) (f i) = true
    · obtain ⟨a, b⟩ := ih (i + 1)
      have := (tq_i.mp c).1
      rw [if_pos c]
      exact ⟨by omega, fun _ => by have := b (by omega); omega⟩
    · rw [if_neg c]
      exact ⟨by omega, fun h => by omega⟩
theorem ch_n {k i : Nat} (hk : k < 5) (hi : i < wl k) : chS k (nI i) = nI (wc k i) ∧ wc k i < 65536 := by
  have h : ∀ k : Fin 5, ∀ i : Fin 4, i.1 < wl k.1 → chS k.1 (nI i.1) = nI (wc k.1 i.1) ∧ wc k.1 i.1 < 65536 := by decide +kernel
  have hw : wl k ≤ 4 := by
    have : ∀ k : Fin 5, wl k.1 ≤ 4 := by decide
    exact this ⟨k, hk⟩
  exact h ⟨k, hk⟩ ⟨i, by omega⟩ hi
theorem wl_le {k : Nat} (hk : k < 5) : wl k ≤ 4 ∧ 3 ≤ wl k := by
  have : ∀ k : Fin 5, wl k.1 ≤ 4 ∧ 3 ≤ wl k.1 := by decide
  exact this ⟨k, hk⟩
theorem alike_n {O : CS} {p k : Nat} (hO : CX t L O) (hL : L ≤ 80) (ht : ∀ i, t i < 65536) (hp : p ≤ L) (e : O.1 2 = nI p) (hk : k < 5) : o_X1_alikeFromHere O k ∧ f_X1_alikeFromHere O k = nI (aw t L p k) := by
  have w4 := wl_le hk
  have key : ∀ (r n i : Nat), i + r = wl k → r < n → ol_X1_alikeFromHere_2 O k n i ∧ l_X1_alikeFromHere_2 O k n i = nI (i + al t L (wc k) p r i) := by
    intro r
    induction r with
    | zero =>
      intro n i h1 h2
      cases n with
      | zero => omega
      | succ n =>
        have nl : ¬ nI i < nI (lenS.getD k 0) := nI_nlt (show wl k ≤ i by omega) (by omega)
        rw [ol_X1_alikeFromHere_2, l_X1_alikeFromHere_2, if_neg nl]
        exact ⟨⟨hk, fun z => absurd z nl, fun _ => trivial⟩, rfl⟩
    | succ r ih =>
      intro n i h1 h2
      cases n with
      | zero => omega
      | succ n =>
        have lt : nI i < nI (lenS.getD k 0) := nI_lt (show i < wl k by omega) (show wl k < 2 ^ 31 by omega)
        obtain ⟨c1, c2⟩ := ch_n hk (show i < wl k by omega)
        have iv : vp_in (nI i) (lenS.getD k 0) := vp_in_nI (show i < wl k by omega) (show wl k < 2 ^ 31 by omega)
        rw [ol_X1_alikeFromHere_2, l_X1_alikeFromHere_2, if_pos lt, e, nI_add, c1, al]
        have q := signq hO hL ht (p := p + i) (c := wc k i) (by omega) (by omega)
        by_cases d : tq t L (p + i) (wc k i) = true
        · obtain ⟨a, b⟩ := ih n (i + 1) (by omega) (by omega)
          rw [if_pos (q.mpr d), if_pos d, b]
          exact ⟨⟨hk, fun _ => ⟨hk, iv, fun _ => a, fun z => absurd (q.mpr d) z⟩, fun z => absurd lt z⟩, congrArg nI (by omega)⟩
        · rw [if_neg (fun z => d (q.mp z)), if_neg d]
          exact ⟨⟨hk, fun _ => ⟨hk, iv, fun z => absurd (q.mp z) d, fun _ => trivial⟩, fun z => absurd lt z⟩, rfl⟩
  obtain ⟨a, b⟩ := key (wl k) 6 0 (by omega) (by omega)
  exact ⟨a, b.trans (congrArg nI (Nat.zero_add _))⟩
theorem imax_m {a b : Nat} (ha : a < 2 ^ 31) (hb : b < 2 ^ 31) : imax (nI a) (nI b) = nI (max a b) := by
  unfold imax
  have q : nI a < nI b ↔ a < b := nI_ltI ha hb
  by_cases c : a < b
  · rw [if_pos (q.mpr c), Nat.max_eq_right (by omega)]
  · rw [if_neg (fun z => c (q.mp z)), Nat.max_eq_left (by omega)]
theorem let_n {i : Nat} (h : i < 5) : f_X1_lettersOf (nI i) = i := by
  have : ∀ i : Fin 5, f_X1_lettersOf (nI i.1) = i.1 := by decide +kernel
  exact this ⟨i, h⟩
theorem rw_step {O : CS} {p : Nat} (hO : CX t L O) (hL : L ≤ 80) (ht : ∀ i, t i < 65536) (hp : p ≤ L) (e : O.1 2 = nI p) {n i x : Nat} (hi : i < 5) (hx : x ≤ 4) : l_X1_readWord_4 O (n + 1) (nI x) i = (if aw t L p i = wl i then (nI i, setI O 2 (nI (p + wl i))) else l_X1_readWord_4 O n (nI (max x (aw t L p i))) (i + 1)) ∧ (ol_X1_readWord_4 O n (nI (max x (aw t L p i))) (i + 1) → ol_X1_readWord_4 O (n + 1) (nI x) i) := by
  have w4 := wl_le hi
  have aw4 : aw t L p i ≤ wl i := (al_le (t := t) (L := L) (wc i) p (wl i) 0).1
  obtain ⟨o, f⟩ := alike_n hO hL ht hp e hi
  rw [l_X1_readWord_4, ol_X1_readWord_4, if_neg (show ¬ 4 < i by omega), let_n hi, f]
  have q : nI (aw t L p i) = nI (lenS.getD i 0) ↔ aw t L p i = wl i := nI_eq (by omega) (show wl i < 2 ^ 31 by omega)
  rw [imax_m (by omega) (by omega)]
  simp only [bind1]
  by_cases c : aw t L p i = wl i
  · rw [if_pos (q.mpr c), if_pos c, e, nI_add, c]
    exact ⟨rfl, fun _ => ⟨fun z => absurd z (by omega), fun _ => ⟨o, hi, fun _ => trivial, fun z => absurd rfl z⟩⟩⟩
  · rw [if_neg (fun z => c (q.mp z)), if_neg c]
    exact ⟨rfl, fun y => ⟨fun z => absurd z (by omega), fun _ => ⟨o, hi, fun _ => trivial, fun _ => y⟩⟩⟩
def wcode (w : Nat) : Int32 := if w = 5 then -1 else nI w
theorem word_n {O : CS} {p : Nat} (hO : CX t L O) (hL : L ≤ 80) (ht : ∀ i, t i < 65536) (hp : p ≤ L) (e : O.1 2 = nI p) : o_X1_readWord O ∧ f_X1_readWord O = (wcode (WD t L p).1, setI O 2 (nI (WD t L p).2)) := by
  have al4 : ∀ k, k < 5 → aw t L p k ≤ 4 := fun k hk => Nat.le_trans (al_le (t := t) (L := L) (wc k) p (wl k) 0).1 (wl_le hk).1
  have a0 := al4 0 (by decide)
  have a1 := al4 1 (by decide)
  have a2 := al4 2 (by decide)
  have a3 := al4 3 (by decide)
  have a4 := al4 4 (by decide)
  obtain ⟨e0, o0⟩ := rw_step hO hL ht hp e (n := 5) (i := 0) (x := 0) (by decide) (by decide)
  obtain ⟨e1, o1⟩ := rw_step hO hL ht hp e (n := 4) (i := 1) (x := max 0 (aw t L p 0)) (by decide) (by omega)
  obtain ⟨e2, o2⟩ := rw_step hO hL ht hp e (n := 3) (i := 2) (x := max (max 0 (aw t L p 0)) (aw t L p 1)) (by decide) (by omega)
  obtain ⟨e3, o3⟩ := rw_step hO hL ht hp e (n := 2) (i := 3) (x := max (max (max 0 (aw t L p 0)) (aw t L p 1)) (aw t L p 2)) (by decide) (by omega)
  obtain ⟨e4, o4⟩ := rw_step hO hL ht hp e (n := 1) (i := 4) (x := max (max (max (max 0 (aw t L p 0)) (aw t L p 1)) (aw t L p 2)) (aw t L p 3)) (by decide) (by omega)
  have e5 : ∀ x, l_X1_readWord_4 O 1 (nI x) 5 = (-1, setI O 2 (nI (p + x))) := fun x => by
    rw [show (1 : Nat) = 0 + 1 from rfl, l_X1_readWord_4, if_pos (by decide)]
    unfold k_X1_readWord_56
    simp only [bind1]
    rw [e, nI_add]
  have o5 : ∀ x, ol_X1_readWord_4 O 1 (nI x) 5 := fun x => by
    rw [show (1 : Nat) = 0 + 1 from rfl, ol_X1_readWord_4]
    exact ⟨fun _ => trivial, fun z => absurd (by decide) z⟩
  refine ⟨o0 (o1 (o2 (o3 (o4 (o5 _))))), ?_⟩
  have ee : f_X1_readWord O = _ := e0
  rw [ee, e1, e2, e3, e4, e5]
  unfold WD
  rw [show wl 0 = 4 from rfl, show wl 1 = 3 from rfl, show wl 2 = 3 from rfl, show wl 3 = 4 from rfl, show wl 4 = 4 from rfl, Nat.zero_max]
  by_cases c0 : aw t L p 0 = 4
  · rw [if_pos c0, if_pos c0]; rfl
  rw [if_neg c0, if_neg c0]
  by_cases c1 : aw t L p 1 = 3
  · rw [if_pos c1, if_pos c1]; rfl
  rw [if_neg c1, if_neg c1]
  by_cases c2 : aw t L p 2 = 3
  · rw [if_pos c2, if_pos c2]; rfl
  rw [if_neg c2, if_neg c2]
  by_cases c3 : aw t L p 3 = 4
  · rw [if_pos c3, if_pos c3]; rfl
  rw [if_neg c3, if_neg c3]
  by_cases c4 : aw t L p 4 = 4
  · rw [if_pos c4, if_pos c4]; rfl
  rw [if_neg c4, if_neg c4]
  rfl
theorem WD_le {p : Nat} (hp : p ≤ L) : (WD t L p).1 ≤ 5 ∧ p ≤ (WD t L p).2 ∧ (WD t L p).2 ≤ L ∧ ((WD t L p).1 ≠ 5 → p + 3 ≤ (WD t L p).2) := by
  have al4 : ∀ k, p + aw t L p k ≤ L := fun k => (al_le (t := t) (L := L) (wc k) p (wl k) 0).2 (by omega)
  have a0 := al4 0
  have a1 := al4 1
  have a2 := al4 2
  have a3 := al4 3
  have a4 := al4 4
  unfold WD
  by_cases c0 : aw t L p 0 = 4
  · rw [if_pos c0]; exact ⟨by show 0 ≤ 5; omega, by show p ≤ p + 4; omega, by show p + 4 ≤ L; omega, fun _ => by show p + 3 ≤ p + 4; omega⟩
  rw [if_neg c0]
  by_cases c1 : aw t L p 1 = 3
  · rw [if_pos c1]; exact ⟨by show 1 ≤ 5; omega, by show p ≤ p + 3; omega, by show p + 3 ≤ L; omega, fun _ => Nat.le_refl _⟩
  rw [if_neg c1]
  by_cases c2 : aw t L p 2 = 3
  · rw [if_pos c2]; exact ⟨by show 2 ≤ 5; omega, by show p ≤ p + 3; omega, by show p + 3 ≤ L; omega, fun _ => Nat.le_refl _⟩
  rw [if_neg c2]
  by_cases c3 : aw t L p 3 = 4
  · rw [if_pos c3]; exact ⟨by show 3 ≤ 5; omega, by show p ≤ p + 4; omega, by show p + 4 ≤ L; omega, fun _ => by show p + 3 ≤ p + 4; omega⟩
  rw [if_neg c3]
  by_cases c4 : aw t L p 4 = 4
  · rw [if_pos c4]; exact ⟨by show 4 ≤ 5; omega, by show p ≤ p + 4; omega, by show p + 4 ≤ L; omega, fun _ => by show p + 3 ≤ p + 4; omega⟩
  rw [if_neg c4]
  exact ⟨Nat.le_refl _, by show p ≤ p + max _ _; omega, by show p + max (max (max (max (aw t L p 0) (aw t L p 1)) (aw t L p 2)) (aw t L p 3)) (aw t L p 4) ≤ L; omega, fun k => absurd rfl k⟩
end CEL
