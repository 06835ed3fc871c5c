/-! PURE PART. the reference lays a way -/
abbrev yA (s : Nat → Int32) (x v : Nat) : Nat := AA (rU s) (rH s) x v
abbrev yD (s : Nat → Int32) (x v : Nat) : Nat := DD (rU s) (rH s) x v
abbrev yC (s : Nat → Int32) (x v : Nat) : Nat := CC (rU s) (rH s) (rW s) x v
abbrev yP (s : Nat → Int32) (x v k : Nat) : Nat := PP (rU s) (rH s) x v k
/-- the same but for what a way writes -/
def sw (S Z : CS) : Prop := (∀ j, j ≠ 11 → j ≠ 12 → Z.1 j = S.1 j) ∧ ∀ j, j ≠ 10 → Z.2 j = S.2 j
theorem sw.rf (S : CS) : sw S S := ⟨fun _ _ _ => rfl, fun _ _ => rfl⟩
theorem sw.trans {S Z R : CS} (h : sw S Z) (h2 : sw Z R) : sw S R := ⟨fun j a b => (h2.1 j a b).trans (h.1 j a b), fun j a => (h2.2 j a).trans (h.2 j a)⟩
theorem sw.I {S Z : CS} (h : sw S Z) {j : Nat} (v : Int32) (hj : j = 11 ∨ j = 12) : sw S (setI Z j v) := ⟨fun i a b => by
  have : (setI Z j v).1 i = Z.1 i := pk_un (by rcases hj with rfl | rfl <;> assumption)
  rw [this, h.1 i a b], h.2⟩
theorem sw.F {S Z : CS} (h : sw S Z) (f : Nat → Int32) : sw S (setF Z 10 f) := ⟨h.1, fun i a => by
  have : (setF Z 10 f).2 i = Z.2 i := by
    show va_up Z.2 10 f i = _
    unfold va_up
    rw [if_neg a]
  rw [this, h.2 i a]⟩
theorem setI_s (S : CS) (j : Nat) (v : Int32) : (setI S j v).1 j = v := pk_us
theorem setI_n (S : CS) {i j : Nat} (v : Int32) (h : i ≠ j) : (setI S j v).1 i = S.1 i := pk_un h
theorem setI_2 (S : CS) (j : Nat) (v : Int32) : (setI S j v).2 = S.2 := rfl
theorem setF_1 (S : CS) (j : Nat) (f : Nat → Int32) : (setF S j f).1 = S.1 := rfl
theorem setF_s (S : CS) (j : Nat) (f : Nat → Int32) : (setF S j f).2 j = f := if_pos rfl
theorem setF_n (S : CS) {i j : Nat} (f : Nat → Int32) (h : i ≠ j) : (setF S j f).2 i = S.2 i := if_neg h
theorem uc_comm (s : Nat → Int32) (v u : Nat) : uc s v u = uc s u v := cntB_congr (fun i _ => by
  unfold un
  congr 1
  exact decide_eq_decide.mpr eq_comm)
def WAY (S : CS) (x v : Nat) (R : CS) : Prop := sw S R ∧ R.1 11 = nI (yD (S.2 0) x v) ∧ R.1 12 = nI (yC (S.2 0) x v) ∧ ∀ k, k ≤ yD (S.2 0) x v → R.2 10 k = nI (yP (S.2 0) x v k)
theorem uc_le (s : Nat → Int32) (v u : Nat) : uc s v u ≤ 8 := cntB_le _ 8
theorem wC_step {s : Nat → Int32} (W : SH s) {x v k : Nat} (hx : rP s x) (hv : rP s v) (e : rT s x = rT s v) (hk : k < yD s x v) : yC s (yP s x v k) v = uc s (yP s x v k) (yP s x v (k + 1)) + yC s (yP s x v (k + 1)) v ∧ yD s (yP s x v k) v = yD s (yP s x v (k + 1)) v + 1 := by
  have T := W.tr
  obtain ⟨h1, h2⟩ := PP_P T hx hv e (Nat.le_of_lt hk)
  rcases PP_step T hx hv e hk with ⟨c, -, h⟩ | ⟨c, -, g, h, c2⟩
  · obtain ⟨g, d1, d2⟩ := way_up (wt := rW s) T h1 hv h2 c
    refine ⟨?_, ?_⟩
    · show CC _ _ _ (PP _ _ x v k) v = uc s (PP _ _ x v k) (PP _ _ x v (k + 1)) + CC _ _ _ (PP _ _ x v (k + 1)) v
      rw [h, d2]
      rfl
    · show DD _ _ (PP _ _ x v k) v = DD _ _ (PP _ _ x v (k + 1)) v + 1
      rw [h, d1]
  · obtain ⟨d1, d2⟩ := way_down (wt := rW s) T hv g c2
    rw [h] at d1 d2
    refine ⟨?_, d1⟩
    show CC _ _ _ (PP _ _ x v k) v = uc s (PP _ _ x v k) (PP _ _ x v (k + 1)) + CC _ _ _ (PP _ _ x v (k + 1)) v
    rw [d2, uc_comm]
    show uc s _ (rU s _) + _ = _
    rw [h]
theorem wC_le {s : Nat → Int32} (W : SH s) {x v : Nat} (hx : rP s x) (hv : rP s v) (e : rT s x = rT s v) : yC s x v ≤ 368 := by
  have T := W.tr
  have h1 := (AA_spec T hx hv e).1
  have h2 := (AA_spec T hv hx e.symm).1
  have h3 := ht_le T hx
  have h4 := ht_le T hv
  have h5 := UU_le (rU s) (rW s) 8 (fun v => uc_le s v _) (AA (rU s) (rH s) x v) x
  have h6 := UU_le (rU s) (rW s) 8 (fun v => uc_le s v _) (AA (rU s) (rH s) v x) v
  show UU _ _ _ _ + UU _ _ _ _ ≤ _
  omega
section LAY
variable {S : CS} {x v : Nat}
theorem lay4 (W : SH (S.2 0)) (hx : rP (S.2 0) x) (hv : rP (S.2 0) v) (e : rT (S.2 0) x = rT (S.2 0) v) : ∀ (n i m : Nat) (Z : CS), sw S Z → Z.1 11 = nI (yD (S.2 0) x v) → (∀ k, k ≤ yD (S.2 0) x v → Z.2 10 k = nI (yP (S.2 0) x v k)) → Z.1 12 = nI m → i ≤ yD (S.2 0) x v → m + yC (S.2 0) (yP (S.2 0) x v i) v = yC (S.2 0) x v → yD (S.2 0) x v < i + n → ol_X7_layWay_177 n Z i ∧ WAY S x v (l_X7_layWay_177 n Z i) := by
  have T := W.tr
  have dl : yD (S.2 0) x v ≤ 23 := DD_le T hx hv e
  intro n
  induction n with
  | zero => intro i m Z h1 h2 h3 h4 h5 h6 h7; omega
  | succ n ih =>
    intro i m Z h1 h2 h3 h4 h5 h6 h7
    have s0 : Z.2 0 = S.2 0 := h1.2 0 (by decide)
    have q : nI i < Z.1 11 ↔ i < yD (S.2 0) x v := by rw [h2]; exact nI_ltI (by omega) (by omega)
    rw [ol_X7_layWay_177, l_X7_layWay_177]
    simp only [bind1]
    by_cases c : i < yD (S.2 0) x v
    · have p1 := (PP_P T hx hv e (Nat.le_of_lt c)).1
      have p2 := (PP_P T hx hv e (k := i + 1) c).1
      have y1 : Z.2 10 (nI i).toNatClampNeg = nI (yP (S.2 0) x v i) := by rw [nI_clamp (by omega), h3 i (by omega)]
      have y2 : Z.2 10 (nI (i + 1)).toNatClampNeg = nI (yP (S.2 0) x v (i + 1)) := by rw [nI_clamp (by omega), h3 (i + 1) (by omega)]
      obtain ⟨o1, e1⟩ := ucell_n (S := Z) (v := yP (S.2 0) x v i) (u := yP (S.2 0) x v (i + 1)) p1.1 p2.1
      rw [s0] at e1
      obtain ⟨w1, -⟩ := wC_step W hx hv e c
      obtain ⟨a, b⟩ := ih (i + 1) (m + uc (S.2 0) (yP (S.2 0) x v i) (yP (S.2 0) x v (i + 1))) (setI Z 12 (Z.1 12 + f_X7_unlikeCells Z (Z.2 10 (nI i).toNatClampNeg) (Z.2 10 (nI (i + 1)).toNatClampNeg))) (h1.I _ (Or.inr rfl)) (by rw [setI_n _ _ (by decide)]; exact h2) h3 (by rw [setI_s, y1, y2, e1, h4, nI_add]) (by omega) (by omega) (by omega)
      rw [if_pos (q.mpr c)]
      refine ⟨⟨fun _ => ⟨vp_in_nI (by omega) (by decide), vp_in_nI (by omega) (by decide), ?_, a⟩, fun h => absurd (q.mpr c) h⟩, b⟩
      rw [y1, y2]
      exact o1
    · rw [if_neg (fun z => c (q.mp z))]
      refine ⟨⟨fun h => absurd (q.mp h) c, fun _ => trivial⟩, h1, h2, ?_, h3⟩
      have : i = yD (S.2 0) x v := by omega
      rw [this, show yP (S.2 0) x v (yD (S.2 0) x v) = v from PP_end T hx hv e, show yC (S.2 0) v v = 0 from (way_self T hv).2] at h6
      show Z.1 12 = _
      rw [h4]
      exact congrArg nI h6
theorem lay3 (W : SH (S.2 0)) (hx : rP (S.2 0) x) (hv : rP (S.2 0) v) (e : rT (S.2 0) x = rT (S.2 0) v) {Y : CS} (hY : Y.2 10 (Y.1 11).toNatClampNeg = nI (itr (rU (S.2 0)) (yA (S.2 0) v x) v)) : ∀ (n j : Nat) (Z : CS), sw S Z → Z.1 11 = nI (yA (S.2 0) x v) → (∀ k, k ≤ yA (S.2 0) x v → Z.2 10 k = nI (itr (rU (S.2 0)) k x)) → (∀ k, k < j → Z.2 10 (yD (S.2 0) x v - k) = nI (itr (rU (S.2 0)) k v)) → j ≤ yA (S.2 0) v x → yA (S.2 0) v x < j + n → ol_X7_layWay_124 Y (yA (S.2 0) v x) n Z (nI (yA (S.2 0) x v + yA (S.2 0) v x - j)) (nI (itr (rU (S.2 0)) j v)) ∧ WAY S x v (l_X7_layWay_124 Y (yA (S.2 0) v x) n Z (nI (yA (S.2 0) x v + yA (S.2 0) v x - j)) (nI (itr (rU (S.2 0)) j v))) := by
  have T := W.tr
  have dl : yD (S.2 0) x v ≤ 23 := DD_le T hx hv e
  have b1 : yA (S.2 0) v x ≤ ht (rU (S.2 0)) (rH (S.2 0)) v := (AA_spec T hv hx e.symm).1
  have de : yD (S.2 0) x v = yA (S.2 0) x v + yA (S.2 0) v x := rfl
  intro n
  induction n with
  | zero => intro j Z h1 h2 h3 h4 h5 h6; omega
  | succ n ih =>
    intro j Z h1 h2 h3 h4 h5 h6
    have s0 : Z.2 0 = S.2 0 := h1.2 0 (by decide)
    obtain ⟨p1, p2⟩ := it_P T j v hv (by omega)
    obtain ⟨m1, m2⟩ := it_P T (yA (S.2 0) v x) v hv (by omega)
    have t1 := p1.1
    have t2 := m1.1
    have q : nI (itr (rU (S.2 0)) j v) = Y.2 10 (Y.1 11).toNatClampNeg ↔ j = yA (S.2 0) v x := by
      rw [hY, nI_eq (by omega) (by omega)]
      constructor
      · intro z
        rw [z] at p2
        omega
      · intro z
        rw [z]
    rw [ol_X7_layWay_124, l_X7_layWay_124]
    simp only [bind1]
    by_cases c : j = yA (S.2 0) v x
    · rw [if_pos (q.mpr c)]
      subst c
      have key := lay4 W hx hv e 25 0 0 (setI (setI Z 11 (Z.1 11 + nI (yA (S.2 0) v x))) 12 0) ((h1.I _ (Or.inl rfl)).I _ (Or.inr rfl)) (by rw [setI_n _ _ (by decide), setI_s, h2, nI_add]; rfl) (fun k hk => by
        show Z.2 10 k = _
        unfold yP PP
        by_cases z : k ≤ AA (rU (S.2 0)) (rH (S.2 0)) x v
        · rw [if_pos z, h3 k z]
        · rw [if_neg z]
          have z : ¬ k ≤ yA (S.2 0) x v := z
          have z3 := h4 (yD (S.2 0) x v - k) (by omega)
          rw [show yD (S.2 0) x v - (yD (S.2 0) x v - k) = k by omega] at z3
          exact z3) (by rw [setI_s]; rfl) (Nat.zero_le _) (by rw [show yP (S.2 0) x v 0 = x from PP_zero x v, Nat.zero_add]) (by omega)
      exact ⟨⟨fun _ => key.1, fun h => absurd (q.mpr rfl) h⟩, key.2⟩
    · rw [if_neg (fun z => c (q.mp z))]
      have g := hg_of T (v := itr (rU (S.2 0)) j v) (by rw [p2]; omega)
      have e2 : nI (yA (S.2 0) x v + yA (S.2 0) v x - j) + (-1) = nI (yA (S.2 0) x v + yA (S.2 0) v x - (j + 1)) := by
        rw [show yA (S.2 0) x v + yA (S.2 0) v x - j = (yA (S.2 0) x v + yA (S.2 0) v x - (j + 1)) + 1 by omega, pk_m1]
      have e3 : (setF Z 10 (upd (Z.2 10) (nI (yA (S.2 0) x v + yA (S.2 0) v x - j)).toNatClampNeg (nI (itr (rU (S.2 0)) j v)))).2 0 (f_X7_of (nI (itr (rU (S.2 0)) j v)) 1).toNatClampNeg = nI (itr (rU (S.2 0)) (j + 1) v) := by
        rw [setF_n _ _ (by decide), cl1 t1, s0, src_n W p1 (rH_pos g).1, itr_succ]
      obtain ⟨a, b⟩ := ih (j + 1) (setF Z 10 (upd (Z.2 10) (nI (yA (S.2 0) x v + yA (S.2 0) v x - j)).toNatClampNeg (nI (itr (rU (S.2 0)) j v)))) (h1.F _) h2 (fun k hk => by
        rw [setF_s, nI_clamp (by omega), pk_un (by omega)]
        exact h3 k hk) (fun k hk => by
        rw [setF_s, nI_clamp (by omega)]
        by_cases z : k = j
        · rw [z]
          exact pk_us
        · rw [pk_un (by omega)]
          exact h4 k (by omega)) (by omega) (by omega)
      rw [e2, e3]
      exact ⟨⟨fun h => absurd (q.mp h) c, fun _ => ⟨vp_in_nI (by omega) (by decide), vi1 t1, a⟩⟩, b⟩
theorem lay2 (W : SH (S.2 0)) (hx : rP (S.2 0) x) (hv : rP (S.2 0) v) (e : rT (S.2 0) x = rT (S.2 0) v) {Y : CS} (h1 : sw S Y) (h2 : Y.1 11 = nI (yA (S.2 0) x v)) (h3 : ∀ k, k ≤ yA (S.2 0) x v → Y.2 10 k = nI (itr (rU (S.2 0)) k x)) : ∀ (n j : Nat), j ≤ yA (S.2 0) v x → yA (S.2 0) v x < j + n → ol_X7_layWay_87 (nI v) Y n j (nI (itr (rU (S.2 0)) j v)) ∧ WAY S x v (l_X7_layWay_87 (nI v) Y n j (nI (itr (rU (S.2 0)) j v))) := by
  have T := W.tr
  have b1 : yA (S.2 0) v x ≤ ht (rU (S.2 0)) (rH (S.2 0)) v := (AA_spec T hv hx e.symm).1
  have a1 : yA (S.2 0) x v ≤ ht (rU (S.2 0)) (rH (S.2 0)) x := (AA_spec T hx hv e).1
  have hl := ht_le T hv
  have hl2 := ht_le T hx
  have s0 : Y.2 0 = S.2 0 := h1.2 0 (by decide)
  have hY : Y.2 10 (Y.1 11).toNatClampNeg = nI (itr (rU (S.2 0)) (yA (S.2 0) v x) v) := by
    rw [h2, nI_clamp (by omega), h3 _ (Nat.le_refl _)]
    exact congrArg nI (AA_meet T hx hv e)
  intro n
  induction n with
  | zero => intro j h4 h5; omega
  | succ n ih =>
    intro j h4 h5
    obtain ⟨p1, p2⟩ := it_P T j v hv (by omega)
    obtain ⟨m1, m2⟩ := it_P T (yA (S.2 0) v x) v hv (by omega)
    have t1 := p1.1
    have t2 := m1.1
    have q : nI (itr (rU (S.2 0)) j v) = Y.2 10 (Y.1 11).toNatClampNeg ↔ j = yA (S.2 0) v x := by
      rw [hY, nI_eq (by omega) (by omega)]
      constructor
      · intro z
        rw [z] at p2
        omega
      · intro z
        rw [z]
    rw [ol_X7_layWay_87, l_X7_layWay_87]
    by_cases c : j = yA (S.2 0) v x
    · rw [if_pos (q.mpr c)]
      subst c
      have key := lay3 W hx hv e hY 25 0 Y h1 h2 h3 (fun k hk => absurd hk (Nat.not_lt_zero _)) (Nat.zero_le _) (by omega)
      have e4 : Y.1 11 + nI (yA (S.2 0) v x) = nI (yA (S.2 0) x v + yA (S.2 0) v x - 0) := by rw [h2, nI_add, Nat.sub_zero]
      unfold ok_X7_layWay_112 k_X7_layWay_112
      rw [e4]
      exact ⟨⟨fun _ => key.1, fun h => absurd (q.mpr rfl) h⟩, key.2⟩
    · rw [if_neg (fun z => c (q.mp z))]
      have g := hg_of T (v := itr (rU (S.2 0)) j v) (by rw [p2]; omega)
      have e3 : Y.2 0 (f_X7_of (nI (itr (rU (S.2 0)) j v)) 1).toNatClampNeg = nI (itr (rU (S.2 0)) (j + 1) v) := by
        rw [cl1 t1, s0, src_n W p1 (rH_pos g).1, itr_succ]
      obtain ⟨a, b⟩ := ih (j + 1) (by omega) (by omega)
      rw [e3]
      exact ⟨⟨fun h => absurd (q.mp h) c, fun _ => ⟨vi1 t1, a⟩⟩, b⟩
theorem lay1 (W : SH (S.2 0)) (hx : rP (S.2 0) x) (hv : rP (S.2 0) v) (e : rT (S.2 0) x = rT (S.2 0) v) : ∀ (n j : Nat) (Z : CS), sw S Z → Z.1 11 = nI j → (∀ k, k ≤ j → Z.2 10 k = nI (itr (rU (S.2 0)) k x)) → j ≤ yA (S.2 0) x v → yA (S.2 0) x v < j + n → ol_X7_layWay_12 (nI v) n Z ∧ WAY S x v (l_X7_layWay_12 (nI v) n Z) := by
  have T := W.tr
  obtain ⟨a1', a2, a3⟩ := AA_spec T hx hv e
  have a1 : yA (S.2 0) x v ≤ ht (rU (S.2 0)) (rH (S.2 0)) x := a1'
  have hl := ht_le T hx
  have hl2 := ht_le T hv
  have b1 : yA (S.2 0) v x ≤ ht (rU (S.2 0)) (rH (S.2 0)) v := (AA_spec T hv hx e.symm).1
  intro n
  induction n with
  | zero => intro j Z h1 h2 h3 h4 h5; omega
  | succ n ih =>
    intro j Z h1 h2 h3 h4 h5
    have s0 : Z.2 0 = S.2 0 := h1.2 0 (by decide)
    obtain ⟨p1, p2⟩ := it_P T j x hx (by omega)
    have t1 := p1.1
    have y : Z.2 10 (Z.1 11).toNatClampNeg = nI (itr (rU (S.2 0)) j x) := by rw [h2, nI_clamp (by omega), h3 j (Nat.le_refl _)]
    obtain ⟨o1, e1⟩ := comes_n (S := Z) (by rw [s0]; exact W) (v := v) (u := itr (rU (S.2 0)) j x) (by rw [s0]; exact hv) t1
    rw [s0] at e1
    have q : f_X7_comesOf Z (nI v) (nI (itr (rU (S.2 0)) j x)) = true ↔ j = yA (S.2 0) x v := by
      rw [e1, decide_eq_true_iff]
      constructor
      · intro z
        rcases Nat.lt_or_ge j (yA (S.2 0) x v) with w | w
        · exact absurd z (a3 j w)
        · omega
      · intro z
        rw [z]
        exact a2
    have vj : vp_in (Z.1 11) 24 := by rw [h2]; exact vp_in_nI (by omega) (by decide)
    rw [ol_X7_layWay_12, l_X7_layWay_12]
    simp only [bind1]
    rw [y]
    by_cases c : j = yA (S.2 0) x v
    · rw [if_pos (q.mpr c)]
      subst c
      have key := lay2 W hx hv e h1 h2 h3 25 0 (Nat.zero_le _) (by omega)
      exact ⟨⟨vj, o1, fun _ => ⟨vj, key.1⟩, fun h => absurd (q.mpr rfl) h⟩, key.2⟩
    · rw [if_neg (fun z => c (q.mp z))]
      have g := hg_of T (v := itr (rU (S.2 0)) j x) (by rw [p2]; omega)
      have e3 : Z.2 0 (f_X7_of (nI (itr (rU (S.2 0)) j x)) 1).toNatClampNeg = nI (itr (rU (S.2 0)) (j + 1) x) := by
        rw [cl1 t1, s0, src_n W p1 (rH_pos g).1, itr_succ]
      have e4 : Z.1 11 + 1 = nI (j + 1) := by rw [h2]; exact nI_1 j
      rw [e3, e4]
      obtain ⟨a, b⟩ := ih (j + 1) (setI (setF Z 10 (upd (Z.2 10) (nI (j + 1)).toNatClampNeg (nI (itr (rU (S.2 0)) (j + 1) x)))) 11 ((setF Z 10 (upd (Z.2 10) (nI (j + 1)).toNatClampNeg (nI (itr (rU (S.2 0)) (j + 1) x)))).1 11 + 1)) ((h1.F _).I _ (Or.inl rfl)) (by rw [setI_s, setF_1]; exact e4) (fun k hk => by
        rw [setI_2, setF_s, nI_clamp (by omega)]
        by_cases z : k = j + 1
        · rw [z]
          exact pk_us
        · rw [pk_un z]
          exact h3 k (by omega)) (by omega) (by omega)
      exact ⟨⟨vj, o1, fun h => absurd (q.mp h) c, fun _ => ⟨vj, vi1 t1, vp_in_nI (by omega) (by decide), a⟩⟩, b⟩
theorem lay_n (W : SH (S.2 0)) (hx : rP (S.2 0) x) (hv : rP (S.2 0) v) (e : rT (S.2 0) x = rT (S.2 0) v) : o_X7_layWay S (nI x) (nI v) ∧ WAY S x v (f_X7_layWay S (nI x) (nI v)) := by
  have T := W.tr
  have a1 : yA (S.2 0) x v ≤ ht (rU (S.2 0)) (rH (S.2 0)) x := (AA_spec T hx hv e).1
  have hl := ht_le T hx
  exact lay1 W hx hv e 25 0 (setI (setF S 10 (upd (S.2 10) 0 (nI x))) 11 0) (((sw.rf S).F _).I _ (Or.inl rfl)) (by rw [setI_s]; rfl) (fun k hk => by
    have : k = 0 := by omega
    subst this
    rw [setI_2, setF_s]
    exact pk_us) (Nat.zero_le _) (by omega)
end LAY
