/-! PURE PART. the reference's row of 318 numbers, and what its readers answer -/
def rP (s : Nat → Int32) (v : Nat) : Prop := v < 24 ∧ s (13 * v) = 1
def rU (s : Nat → Int32) (v : Nat) : Nat := (s (13 * v + 1)).toNatClampNeg
def rH (s : Nat → Int32) (v : Nat) : Bool := decide (0 < v) && decide (s (13 * v + 2) = 1)
def rR (s : Nat → Int32) (v : Nat) : Prop := rP s v ∧ s (13 * v + 3) = 1
def un (s : Nat → Int32) (v u c : Nat) : Bool := !decide (s (13 * v + (5 + c)) = s (13 * u + (5 + c)))
def uc (s : Nat → Int32) (v u : Nat) : Nat := cntB (un s v u) 8
def rW (s : Nat → Int32) (v : Nat) : Nat := uc s v (rU s v)
abbrev rT (s : Nat → Int32) (v : Nat) : Nat := tp (rU s) (rH s) v
def hz (v : Nat) : Bool := decide (0 < v)
/-- the shape of a row: sources, no circles -/
def SH (s : Nat → Int32) : Prop := s 0 = 1 ∧ (∀ v, v < 24 → s (13 * v) = 0 ∨ s (13 * v) = 1) ∧ (∀ v, 0 < v → rP s v → s (13 * v + 1) = nI (rU s v) ∧ rP s (rU s v)) ∧ ∃ r : Nat → Nat, ∀ v, 0 < v → rP s v → r (rU s v) < r v
theorem rH_pos {s : Nat → Int32} {v : Nat} (h : rH s v = true) : 0 < v ∧ s (13 * v + 2) = 1 := by
  unfold rH at h
  simpa using h
theorem SH.tr {s : Nat → Int32} (h : SH s) : TR (rP s) (rU s) (rH s) := ⟨fun v hv => hv.1, fun v hv g => (h.2.2.1 v (rH_pos g).1 hv).2, h.2.2.2.elim fun r hr => ⟨r, fun v hv g => hr v (rH_pos g).1 hv⟩⟩
theorem SH.tz {s : Nat → Int32} (h : SH s) : TR (rP s) (rU s) hz := ⟨fun v hv => hv.1, fun v hv g => (h.2.2.1 v (by simpa [hz] using g) hv).2, h.2.2.2.elim fun r hr => ⟨r, fun v hv g => hr v (by simpa [hz] using g) hv⟩⟩
theorem SH.p0 {s : Nat → Int32} (h : SH s) : rP s 0 := ⟨by decide, h.1⟩
theorem of_n (v j : Nat) : f_X7_of (nI v) (nI j) = nI (13 * v + j) := by
  unfold f_X7_of
  rw [show (13 : Int32) = nI 13 from rfl, pk_mul, nI_add]
theorem rd (f : Nat → Int32) {v j : Nat} (hv : v < 24) (hj : j < 13) : f (f_X7_of (nI v) (nI j)).toNatClampNeg = f (13 * v + j) := by
  rw [of_n, nI_clamp (by omega)]
theorem vi {v j : Nat} (hv : v < 24) (hj : j < 13) : vp_in (f_X7_of (nI v) (nI j)) 318 := by
  rw [of_n]
  exact vp_in_nI (by omega) (by decide)
theorem rd0 (f : Nat → Int32) {v : Nat} (hv : v < 24) : f (f_X7_of (nI v) 0).toNatClampNeg = f (13 * v) := rd f (j := 0) hv (by decide)
theorem rd1 (f : Nat → Int32) {v : Nat} (hv : v < 24) : f (f_X7_of (nI v) 1).toNatClampNeg = f (13 * v + 1) := rd f (j := 1) hv (by decide)
theorem rd2 (f : Nat → Int32) {v : Nat} (hv : v < 24) : f (f_X7_of (nI v) 2).toNatClampNeg = f (13 * v + 2) := rd f (j := 2) hv (by decide)
theorem rd3 (f : Nat → Int32) {v : Nat} (hv : v < 24) : f (f_X7_of (nI v) 3).toNatClampNeg = f (13 * v + 3) := rd f (j := 3) hv (by decide)
theorem rd4 (f : Nat → Int32) {v : Nat} (hv : v < 24) : f (f_X7_of (nI v) 4).toNatClampNeg = f (13 * v + 4) := rd f (j := 4) hv (by decide)
theorem cl0 {v : Nat} (hv : v < 24) : (f_X7_of (nI v) 0).toNatClampNeg = 13 * v := by rw [show (0 : Int32) = nI 0 from rfl, of_n, nI_clamp (by omega), Nat.add_zero]
theorem cl1 {v : Nat} (hv : v < 24) : (f_X7_of (nI v) 1).toNatClampNeg = 13 * v + 1 := by rw [show (1 : Int32) = nI 1 from rfl, of_n, nI_clamp (by omega)]
theorem cl2 {v : Nat} (hv : v < 24) : (f_X7_of (nI v) 2).toNatClampNeg = 13 * v + 2 := by rw [show (2 : Int32) = nI 2 from rfl, of_n, nI_clamp (by omega)]
theorem cl3 {v : Nat} (hv : v < 24) : (f_X7_of (nI v) 3).toNatClampNeg = 13 * v + 3 := by rw [show (3 : Int32) = nI 3 from rfl, of_n, nI_clamp (by omega)]
theorem cl4 {v : Nat} (hv : v < 24) : (f_X7_of (nI v) 4).toNatClampNeg = 13 * v + 4 := by rw [show (4 : Int32) = nI 4 from rfl, of_n, nI_clamp (by omega)]
theorem cln {v j : Nat} (hv : v < 24) (hj : j < 13) : (f_X7_of (nI v) (nI j)).toNatClampNeg = 13 * v + j := by rw [of_n, nI_clamp (by omega)]
theorem vi0 {v : Nat} (hv : v < 24) : vp_in (f_X7_of (nI v) 0) 318 := vi (j := 0) hv (by decide)
theorem vi1 {v : Nat} (hv : v < 24) : vp_in (f_X7_of (nI v) 1) 318 := vi (j := 1) hv (by decide)
theorem vi2 {v : Nat} (hv : v < 24) : vp_in (f_X7_of (nI v) 2) 318 := vi (j := 2) hv (by decide)
theorem vi3 {v : Nat} (hv : v < 24) : vp_in (f_X7_of (nI v) 3) 318 := vi (j := 3) hv (by decide)
theorem vi4 {v : Nat} (hv : v < 24) : vp_in (f_X7_of (nI v) 4) 318 := vi (j := 4) hv (by decide)
theorem in_spec (a lo hi : Int32) : f_X7_in a lo hi = decide (¬ a < lo ∧ ¬ hi < a) := by
  unfold f_X7_in
  by_cases h1 : a < lo
  · simp [h1]
  · by_cases h2 : hi < a <;> simp [h1, h2]
theorem in_nI {v n : Nat} (hv : v < 2 ^ 31) (hn : n < 2 ^ 31) : f_X7_in (nI v) 0 (nI n) = decide (v ≤ n) := by
  rw [in_spec]
  have h1 : ¬ nI v < 0 := nI_pos hv
  by_cases c : v ≤ n
  · simp [h1, c, nI_nlt c hn]
  · simp [h1, c, nI_lt (show n < v by omega) hv]
theorem ver_n {S : CS} {v : Nat} (hv : v < 24) : o_X7_isVersion S (nI v) ∧ f_X7_isVersion S (nI v) = decide (S.2 0 (13 * v) = 1) := by
  have h1 : f_X7_in (nI v) 0 23 = true := by
    rw [show (23 : Int32) = nI 23 from rfl, in_nI (by omega) (by decide)]
    simp; omega
  refine ⟨⟨fun _ => ⟨vi0 hv, fun _ => trivial, fun _ => trivial⟩, fun h => absurd h1 h⟩, ?_⟩
  unfold f_X7_isVersion
  rw [if_pos h1, cl0 hv]
  by_cases c : S.2 0 (13 * v) = 1
  · rw [if_pos c]; simp [c]
  · rw [if_neg c]; simp [c]
theorem ver_x {S : CS} {a : Int32} (h : a < 0 ∨ nI 24 ≤ a) : o_X7_isVersion S a ∧ f_X7_isVersion S a = false := by
  have h1 : ¬ f_X7_in a 0 23 = true := by
    rw [in_spec]
    rcases h with h | h
    · simp [h]
    · have : (23 : Int32) < a := by
        rw [Int32.lt_iff_toInt_lt]
        rw [Int32.le_iff_toInt_le, nI_toInt (by decide)] at h
        have : (23 : Int32).toInt = 23 := by decide
        omega
      simp [this]
  refine ⟨⟨fun h => absurd h h1, fun _ => trivial⟩, ?_⟩
  unfold f_X7_isVersion
  rw [if_neg h1]
theorem hangs_n {S : CS} {v : Nat} (hv : v < 24) : o_X7_hangs S (nI v) ∧ f_X7_hangs S (nI v) = rH (S.2 0) v := by
  have h1 : (0 < nI v) ↔ 0 < v := nI_ltI (a := 0) (by decide) (by omega)
  refine ⟨⟨fun _ => ⟨vi2 hv, fun _ => trivial, fun _ => trivial⟩, fun _ => trivial⟩, ?_⟩
  unfold f_X7_hangs rH
  rw [cl2 hv]
  by_cases c : 0 < v
  · rw [if_pos (h1.mpr c)]
    by_cases c2 : S.2 0 (13 * v + 2) = 1
    · rw [if_pos c2]; simp [c, c2]
    · rw [if_neg c2]; simp [c2]
  · rw [if_neg (fun q => c (h1.mp q))]; simp [c]
theorem src_n {s : Nat → Int32} (W : SH s) {v : Nat} (hv : rP s v) (h : 0 < v) : s (13 * v + 1) = nI (rU s v) := (W.2.2.1 v h hv).1
theorem top_n {S : CS} (W : SH (S.2 0)) {v : Nat} (hv : rP (S.2 0) v) : o_X7_top S (nI v) ∧ f_X7_top S (nI v) = nI (rT (S.2 0) v) := by
  have T := W.tr
  have key : ∀ (n v : Nat), rP (S.2 0) v → ht (rU (S.2 0)) (rH (S.2 0)) v < n → ol_X7_top_2 S n (nI v) ∧ l_X7_top_2 S n (nI v) = nI (rT (S.2 0) v) := by
    intro n
    induction n with
    | zero => intro v _ h; omega
    | succ n ih =>
      intro v hv hn
      obtain ⟨o1, e1⟩ := hangs_n (S := S) hv.1
      rw [ol_X7_top_2, l_X7_top_2, e1, cl1 hv.1]
      by_cases g : rH (S.2 0) v = true
      · have h0 := rH_pos g
        have h1 := T.2.1 v hv g
        have h2 := ht_hg T hv g
        obtain ⟨a, b⟩ := ih (rU (S.2 0) v) h1 (by omega)
        rw [if_pos g, src_n W hv h0.1]
        exact ⟨⟨o1, fun _ => ⟨vi1 hv.1, a⟩, fun h => absurd g h⟩, by rw [b]; exact congrArg nI (tp_up T hv g)⟩
      · rw [if_neg g]
        exact ⟨⟨o1, fun h => absurd h g, fun _ => trivial⟩, congrArg nI (tp_no g).symm⟩
  exact key 25 v hv (by have := ht_le T hv; omega)
theorem cm_up_iff {P : Nat → Prop} {up : Nat → Nat} {hg : Nat → Bool} (T : TR P up hg) {v x : Nat} (hv : P v) (g : hg v = true) (e : v ≠ x) : cm up hg (up v) x ↔ cm up hg v x := by
  have h2 := ht_hg T hv g
  constructor
  · intro c
    exact cm_trans T hv (cm_up T hv (cm_refl v) g) c
  · intro c
    have h4 := c.1
    have h5 := c.2
    have h6 : ht up hg x < ht up hg v := by
      rcases Nat.lt_or_ge (ht up hg x) (ht up hg v) with q | q
      · exact q
      · rw [show ht up hg v - ht up hg x = 0 by omega] at h5
        exact absurd h5 e
    refine ⟨by omega, ?_⟩
    rw [show ht up hg v - ht up hg x = (ht up hg (up v) - ht up hg x) + 1 by omega] at h5
    exact h5
theorem cm_no {up : Nat → Nat} {hg : Nat → Bool} {v x : Nat} (g : ¬ hg v = true) (e : v ≠ x) : ¬ cm up hg v x := fun c => by
  have h5 := c.2
  rw [ht_no g, Nat.zero_sub] at h5
  exact e h5
theorem comes_n {S : CS} (W : SH (S.2 0)) {v u : Nat} (hv : rP (S.2 0) v) (hu : u < 24) : o_X7_comesOf S (nI v) (nI u) ∧ f_X7_comesOf S (nI v) (nI u) = decide (cm (rU (S.2 0)) (rH (S.2 0)) v u) := by
  have T := W.tr
  have key : ∀ (n v : Nat), rP (S.2 0) v → ht (rU (S.2 0)) (rH (S.2 0)) v < n → ol_X7_comesOf_2 S (nI u) n (nI v) ∧ l_X7_comesOf_2 S (nI u) n (nI v) = decide (cm (rU (S.2 0)) (rH (S.2 0)) v u) := by
    intro n
    induction n with
    | zero => intro v _ h; omega
    | succ n ih =>
      intro v hv hn
      have hv24 := hv.1
      obtain ⟨o1, e1⟩ := hangs_n (S := S) hv.1
      have q : nI v = nI u ↔ v = u := nI_eq (by omega) (by omega)
      rw [ol_X7_comesOf_2, l_X7_comesOf_2, e1, cl1 hv.1]
      unfold k_X7_comesOf_29
      by_cases c : v = u
      · rw [if_pos (q.mpr c), if_pos (q.mpr c)]
        refine ⟨⟨fun _ => ⟨fun _ => trivial, fun _ => trivial⟩, fun h => absurd (q.mpr c) h⟩, ?_⟩
        subst c
        exact (decide_eq_true (cm_refl v)).symm
      · rw [if_neg (fun z => c (q.mp z))]
        by_cases g : rH (S.2 0) v = true
        · have h0 := rH_pos g
          have h1 := T.2.1 v hv g
          have h2 := ht_hg T hv g
          obtain ⟨a, b⟩ := ih (rU (S.2 0) v) h1 (by omega)
          rw [if_pos g, src_n W hv h0.1]
          refine ⟨⟨fun h => absurd (q.mp h) c, fun _ => ⟨o1, fun _ => ⟨vi1 hv.1, a⟩, fun h => absurd g h⟩⟩, ?_⟩
          rw [b]
          exact decide_eq_decide.mpr (cm_up_iff T hv g c)
        · rw [if_neg g, if_neg (fun z => c (q.mp z))]
          exact ⟨⟨fun h => absurd (q.mp h) c, fun _ => ⟨o1, fun h => absurd h g, fun _ => ⟨fun _ => trivial, fun _ => trivial⟩⟩⟩, (decide_eq_false (cm_no g c)).symm⟩
  exact key 25 v hv (by have := ht_le T hv; omega)
theorem root_n {S : CS} (W : SH (S.2 0)) {v : Nat} (hv : rP (S.2 0) v) : o_X7_rootOf S (nI v) ∧ (∀ w, rR (S.2 0) w → rT (S.2 0) w = rT (S.2 0) v → (∀ w', rR (S.2 0) w' → rT (S.2 0) w' = rT (S.2 0) v → w' = w) → f_X7_rootOf S (nI v) = nI w) ∧ ((∀ w', rR (S.2 0) w' → ¬ rT (S.2 0) w' = rT (S.2 0) v) → f_X7_rootOf S (nI v) = -5) := by
  have T := W.tr
  obtain ⟨o0, e0⟩ := top_n W hv
  have tlt : rT (S.2 0) v < 24 := (tp_P T hv).1.1
  have key : ∀ (n i : Nat), i ≤ 24 → 24 < i + n → ol_X7_rootOf_8 S (nI v) n i ∧ (∀ w, i ≤ w → rR (S.2 0) w → rT (S.2 0) w = rT (S.2 0) v → (∀ w', rR (S.2 0) w' → rT (S.2 0) w' = rT (S.2 0) v → w' = w) → l_X7_rootOf_8 S (nI v) n i = nI w) ∧ ((∀ w', rR (S.2 0) w' → ¬ rT (S.2 0) w' = rT (S.2 0) v) → l_X7_rootOf_8 S (nI v) n i = -5) := by
    intro n
    induction n with
    | zero => intro i h1 h2; omega
    | succ n ih =>
      intro i h1 h2
      rw [ol_X7_rootOf_8, l_X7_rootOf_8]
      by_cases c : i < 24
      · obtain ⟨a, b, d⟩ := ih (i + 1) (by omega) (by omega)
        rw [if_pos c, cl0 c, cl3 c]
        by_cases c1 : S.2 0 (13 * i) = 1
        · rw [if_pos c1]
          by_cases c2 : S.2 0 (13 * i + 3) = 1
          · have hi : rP (S.2 0) i := ⟨c, c1⟩
            obtain ⟨o1, e1⟩ := top_n W hi
            have ilt : rT (S.2 0) i < 24 := (tp_P T hi).1.1
            have q : f_X7_top S (nI i) = f_X7_top S (nI v) ↔ rT (S.2 0) i = rT (S.2 0) v := by
              rw [e0, e1]
              exact nI_eq (by omega) (by omega)
            rw [if_pos c2]
            refine ⟨⟨fun _ => ⟨vi0 c, fun _ => ⟨vi3 c, fun _ => ⟨o1, fun _ => trivial, fun _ => a⟩, fun h => absurd c2 h⟩, fun h => absurd c1 h⟩, fun h => absurd c h⟩, ?_, ?_⟩
            · intro w hw hr ht huq
              by_cases z : rT (S.2 0) i = rT (S.2 0) v
              · rw [if_pos (q.mpr z), huq i ⟨hi, c2⟩ z]
              · rw [if_neg (fun y => z (q.mp y))]
                refine b w ?_ hr ht huq
                rcases Nat.lt_or_ge i w with y | y
                · exact y
                · have : i = w := by omega
                  exact absurd (this ▸ ht) z
            · intro hno
              rw [if_neg (fun y => hno i ⟨hi, c2⟩ (q.mp y))]
              exact d hno
          · rw [if_neg c2]
            refine ⟨⟨fun _ => ⟨vi0 c, fun _ => ⟨vi3 c, fun h => absurd h c2, fun _ => a⟩, fun h => absurd c1 h⟩, fun h => absurd c h⟩, ?_, d⟩
            intro w hw hr ht huq
            refine b w ?_ hr ht huq
            rcases Nat.lt_or_ge i w with y | y
            · exact y
            · have : i = w := by omega
              exact absurd (this ▸ hr.2) c2
        · rw [if_neg c1]
          refine ⟨⟨fun _ => ⟨vi0 c, fun h => absurd h c1, fun _ => a⟩, fun h => absurd c h⟩, ?_, d⟩
          intro w hw hr ht huq
          refine b w ?_ hr ht huq
          rcases Nat.lt_or_ge i w with y | y
          · exact y
          · have : i = w := by omega
            exact absurd (this ▸ hr.1.2) c1
      · rw [if_neg c]
        exact ⟨⟨fun h => absurd h c, fun _ => trivial⟩, fun w hw hr => by have := hr.1.1; omega, fun _ => rfl⟩
  obtain ⟨a, b, d⟩ := key 25 0 (by decide) (by decide)
  exact ⟨⟨o0, a⟩, fun w => b w (Nat.zero_le _), d⟩
theorem ucell_n {S : CS} {v u : Nat} (hv : v < 24) (hu : u < 24) : o_X7_unlikeCells S (nI v) (nI u) ∧ f_X7_unlikeCells S (nI v) (nI u) = nI (uc (S.2 0) v u) := by
  have key : ∀ (n i : Nat), i ≤ 8 → i + n = 9 → ol_X7_unlikeCells_5 S (nI v) (nI u) n (nI (cntB (un (S.2 0) v u) i)) i ∧ l_X7_unlikeCells_5 S (nI v) (nI u) n (nI (cntB (un (S.2 0) v u) i)) i = nI (uc (S.2 0) v u) := by
    intro n
    induction n with
    | zero => intro i h1 h2; omega
    | succ n ih =>
      intro i h1 h2
      rw [ol_X7_unlikeCells_5, l_X7_unlikeCells_5]
      by_cases c : i < 8
      · obtain ⟨a, b⟩ := ih (i + 1) (by omega) (by omega)
        rw [cntB] at a b
        rw [if_pos c, cln hv (j := 5 + i) (by omega), cln hu (j := 5 + i) (by omega)]
        by_cases d : S.2 0 (13 * v + (5 + i)) = S.2 0 (13 * u + (5 + i))
        · have e : un (S.2 0) v u i = false := by unfold un; simp [d]
          rw [e, if_neg (by decide)] at a b
          have z : nI (cntB (un (S.2 0) v u) i) + 0 = nI (cntB (un (S.2 0) v u) i + 0) := nI_add _ 0
          rw [if_pos d, z]
          exact ⟨⟨fun _ => ⟨vi hv (by omega), vi hu (by omega), fun _ => a, fun h => absurd d h⟩, fun h => absurd c h⟩, b⟩
        · have e : un (S.2 0) v u i = true := by unfold un; simp [d]
          rw [e, if_pos rfl] at a b
          have z : nI (cntB (un (S.2 0) v u) i) + 1 = nI (cntB (un (S.2 0) v u) i + 1) := nI_add _ 1
          rw [if_neg d, z]
          exact ⟨⟨fun _ => ⟨vi hv (by omega), vi hu (by omega), fun h => absurd h d, fun _ => a⟩, fun h => absurd c h⟩, b⟩
      · have : i = 8 := by omega
        subst this
        rw [if_neg c]
        exact ⟨⟨fun h => absurd h c, fun _ => trivial⟩, rfl⟩
  exact key 9 0 (by decide) (by decide)
theorem cellm_n {S : CS} {v u : Nat} (hv : v < 24) (hu : u < 24) : o_X7_cellsUnlike S (nI v) (nI u) ∧ ∀ j, j < 32 → bt (f_X7_cellsUnlike S (nI v) (nI u)) j = (decide (j < 8) && un (S.2 0) v u j) := by
  have key : ∀ (n i : Nat) (x : Int32), i ≤ 8 → i + n = 9 → (∀ j, j < 32 → bt x j = (decide (j < i) && un (S.2 0) v u j)) → ol_X7_cellsUnlike_5 S (nI v) (nI u) n x i ∧ ∀ j, j < 32 → bt (l_X7_cellsUnlike_5 S (nI v) (nI u) n x i) j = (decide (j < 8) && un (S.2 0) v u j) := by
    intro n
    induction n with
    | zero => intro i x h1 h2; omega
    | succ n ih =>
      intro i x h1 h2 hx
      rw [ol_X7_cellsUnlike_5, l_X7_cellsUnlike_5]
      by_cases c : i < 8
      · rw [if_pos c, cln hv (j := 5 + i) (by omega), cln hu (j := 5 + i) (by omega)]
        by_cases d : S.2 0 (13 * v + (5 + i)) = S.2 0 (13 * u + (5 + i))
        · have e : un (S.2 0) v u i = false := by unfold un; simp [d]
          obtain ⟨a, b⟩ := ih (i + 1) (x ||| 0) (by omega) (by omega) (fun j hj => by
            rw [bt_or, bt_0, hx j hj]
            by_cases q : j = i
            · subst q; simp [e]
            · have : (decide (j < i + 1)) = decide (j < i) := decide_eq_decide.mpr (by omega)
              rw [this]; simp)
          rw [if_pos d]
          exact ⟨⟨fun _ => ⟨vi hv (by omega), vi hu (by omega), fun _ => a, fun h => absurd d h⟩, fun h => absurd c h⟩, b⟩
        · have e : un (S.2 0) v u i = true := by unfold un; simp [d]
          obtain ⟨a, b⟩ := ih (i + 1) (x ||| (1 <<< (nI i &&& 31))) (by omega) (by omega) (fun j hj => by
            have z := bt_of (v := i) (i := j) (by omega) hj
            unfold f_X4_of at z
            rw [bt_or, z, hx j hj]
            by_cases q : j = i
            · subst q; simp [e]
            · have : (decide (j < i + 1)) = decide (j < i) := decide_eq_decide.mpr (by omega)
              rw [this]; simp [q])
          rw [if_neg d]
          exact ⟨⟨fun _ => ⟨vi hv (by omega), vi hu (by omega), fun h => absurd h d, fun _ => a⟩, fun h => absurd c h⟩, b⟩
      · have : i = 8 := by omega
        subst this
        rw [if_neg c]
        exact ⟨⟨fun h => absurd h c, fun _ => trivial⟩, hx⟩
  exact key 9 0 0 (by decide) (by decide) (fun j _ => by rw [bt_0]; simp)
