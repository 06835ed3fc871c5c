/-! PURE PART. the class's reach from a version: all of its tree, with steps, cells and the next on the way -/
def inT (s : Nat → Int32) (v u : Nat) : Prop := rP s u ∧ rT s u = rT s v
def INV (s : Nat → Int32) (v : Nat) (E : CS) : Prop :=
  (∀ i, i < 32 → bt (E.1 0) i = true → inT s v i) ∧ bt (E.1 0) v = true ∧ E.2 3 v = nI v ∧
  ∀ u, u < 24 → bt (E.1 0) u = true → E.2 1 u = nI (yD s u v) ∧ E.2 2 u = nI (yC s u v) ∧ (u ≠ v → E.2 3 u = nI (yP s u v 1) ∧ bt (E.1 0) (yP s u v 1) = true)
def SPR (s : Nat → Int32) (v : Nat) (E : CS) : Prop :=
  (∀ i, i < 32 → (bt (E.1 0) i = true ↔ inT s v i)) ∧ E.2 3 v = nI v ∧ ∀ u, inT s v u → E.2 1 u = nI (yD s u v) ∧ E.2 2 u = nI (yC s u v) ∧ (u ≠ v → E.2 3 u = nI (yP s u v 1))
theorem next_up {s : Nat → Int32} (W : SH s) {u v : Nat} (hu : rP s u) (hv : rP s v) (e : rT s u = rT s v) (c : ¬ cm (rU s) (rH s) v u) : yP s u v 1 = rU s u := by
  have T := W.tr
  obtain ⟨g, d, -⟩ := way_up (wt := rW s) T hu hv e c
  have hk : 0 < DD (rU s) (rH s) u v := by omega
  rcases PP_step T hu hv e hk with ⟨-, -, h⟩ | ⟨c2, -⟩
  · rw [PP_zero] at h
    exact h
  · rw [PP_zero] at c2
    exact absurd c2 c
theorem next_down {s : Nat → Int32} (W : SH s) {w v : Nat} (hv : rP s v) (g : rH s w = true) (c : cm (rU s) (rH s) v w) : yP s (rU s w) v 1 = w := by
  have T := W.tr
  have hw := cm_P T hv c
  have hu := T.2.1 w hw g
  have c2 := cm_up T hv c g
  have e := cm_tp' T hv c2
  obtain ⟨d, -⟩ := way_down (wt := rW s) T hv g c
  have hk : 0 < DD (rU s) (rH s) (rU s w) v := by omega
  rcases PP_step T hu hv e hk with ⟨c3, -⟩ | ⟨-, -, g2, h2, c3⟩
  · rw [PP_zero] at c3
    exact absurd c2 c3
  · rw [PP_zero] at h2
    have hx := cm_P T hv c3
    have e1 := ht_hg T hw g
    have e2 := ht_hg T hx g2
    rw [h2] at e2
    exact cm_inj c3 c (e2.trans e1.symm)
section SP
variable {N : CS} {s : Nat → Int32} {v : Nat}
theorem along_n (W : SH s) (R : RS N s) (hv : rP s v) {E : CS} (I : INV s v E) {w : Nat} (hw : rP s w) (g : rH s w = true) : INV s v (f_X2_spreadAlong E N (nI w)) ∧ (∀ i, bt (E.1 0) i = true → bt ((f_X2_spreadAlong E N (nI w)).1 0) i = true) ∧ ((f_X2_spreadAlong E N (nI w) = E ∧ bt (E.1 0) w = bt (E.1 0) (rU s w)) ∨ ∃ x, x < 24 ∧ bt (E.1 0) x = false ∧ bt ((f_X2_spreadAlong E N (nI w)).1 0) x = true) := by
  have T := W.tr
  have w0 := (rH_pos g).1
  have hu := T.2.1 w hw g
  have hw24 := hw.1
  have hu24 := hu.1
  have eh := ht_hg T hw g
  have htu : rT s (rU s w) = rT s w := tp_up T hw g
  obtain ⟨i1, i2, i3, i4⟩ := I
  have hsrc : f_X5_sourceOf N (nI w) = nI (rU s w) := src_s R hw w0
  have hne : w ≠ rU s w := fun q => by rw [← q] at eh; omega
  have hbi : ∀ a b : Bool, bI a = bI b ↔ a = b := by intro a b; cases a <;> cases b <;> decide
  unfold f_X2_spreadAlong
  rw [hsrc, isIn_nI hw24, isIn_nI hu24]
  by_cases c : bt (E.1 0) w = bt (E.1 0) (rU s w)
  · rw [if_pos ((hbi _ _).mpr c)]
    exact ⟨⟨i1, i2, i3, i4⟩, fun i h => h, Or.inl ⟨rfl, c⟩⟩
  · rw [if_neg (fun q => c ((hbi _ _).mp q))]
    by_cases b : bt (E.1 0) w = true
    · have bu : bt (E.1 0) (rU s w) = false := by
        cases q : bt (E.1 0) (rU s w) with
        | false => rfl
        | true => exact absurd (b.trans q.symm) c
      have tw := (i1 w (by omega) b).2
      have cmw : cm (rU s) (rH s) v w := by
        by_cases q : cm (rU s) (rH s) v w
        · exact q
        · have n1 : w ≠ v := fun z => q (z ▸ cm_refl _)
          have h1 := ((i4 w hw24 b).2.2 n1).2
          rw [next_up W hw hv tw q, bu] at h1
          cases h1
      have cmu := cm_up T hv cmw g
      obtain ⟨d1, d2⟩ := way_down (wt := rW s) T hv g cmw
      have n2 : rU s w ≠ v := fun z => by
        have := cmw.1
        rw [z] at eh
        omega
      rw [if_pos b]
      simp only [bind1]
      have k1 : f_X2_stepsTo (setI E 0 (E.1 0 ||| f_X4_of (nI (rU s w)))) (nI w) = nI (yD s w v) := by
        unfold f_X2_stepsTo
        rw [at_n _ hw24 (by decide), setI_2]
        exact (i4 w hw24 b).1
      rw [k1, put_n _ _ hu24 (by decide)]
      have k2 : f_X2_cellsTo (setF (setI E 0 (E.1 0 ||| f_X4_of (nI (rU s w)))) 1 (upd ((setI E 0 (E.1 0 ||| f_X4_of (nI (rU s w)))).2 1) (rU s w) (nI (yD s w v) + 1))) (nI w) = nI (yC s w v) := by
        unfold f_X2_cellsTo
        rw [at_n _ hw24 (by decide), setF_n _ _ (by decide), setI_2]
        exact (i4 w hw24 b).2.1
      rw [k2, put_n _ _ hu24 (by decide), put_n _ _ hu24 (by decide), difc_n R hw w0]
      have q1 : nI (yD s w v) + 1 = nI (yD s (rU s w) v) := by rw [nI_1]; exact congrArg nI d1.symm
      have q2 : nI (yC s w v) + nI (rW s w) = nI (yC s (rU s w) v) := by rw [nI_add, Nat.add_comm]; exact congrArg nI d2.symm
      rw [q1, q2]
      generalize hZ : setF (setF (setF (setI E 0 (E.1 0 ||| f_X4_of (nI (rU s w)))) 1 _) 2 _) 3 _ = Z
      have z0 : ∀ i, i < 32 → bt (Z.1 0) i = (bt (E.1 0) i || decide (i = rU s w)) := by
        intro i hi
        rw [← hZ]
        show bt (E.1 0 ||| f_X4_of (nI (rU s w))) i = _
        rw [bt_or, bt_of (by omega) hi]
      have z1 : Z.2 1 = upd (E.2 1) (rU s w) (nI (yD s (rU s w) v)) := by rw [← hZ]; rfl
      have z2 : Z.2 2 = upd (E.2 2) (rU s w) (nI (yC s (rU s w) v)) := by rw [← hZ]; rfl
      have z3 : Z.2 3 = upd (E.2 3) (rU s w) (nI w) := by rw [← hZ]; rfl
      have mono : ∀ i, bt (E.1 0) i = true → bt (Z.1 0) i = true := by
        intro i hi
        by_cases q : i < 32
        · rw [z0 i q, hi]; rfl
        · have : bt (E.1 0) i = false := BitVec.getLsbD_of_ge _ _ (by omega)
          rw [this] at hi; cases hi
      refine ⟨⟨fun i hi h => ?_, mono v i2, ?_, fun u hu1 h => ?_⟩, mono, Or.inr ⟨rU s w, hu24, bu, by rw [z0 _ (by omega)]; simp⟩⟩
      · rw [z0 i hi] at h
        by_cases q : i = rU s w
        · rw [q]
          exact ⟨hu, by rw [htu, tw]⟩
        · simp [q] at h
          exact i1 i hi h
      · rw [z3, pk_un (Ne.symm n2)]
        exact i3
      · by_cases q : u = rU s w
        · subst q
          rw [z1, z2, z3, pk_us, pk_us, pk_us, next_down W hv g cmw]
          exact ⟨rfl, rfl, fun _ => ⟨rfl, mono w b⟩⟩
        · rw [z0 u (by omega)] at h
          simp [q] at h
          obtain ⟨j1, j2, j3⟩ := i4 u hu1 h
          rw [z1, z2, z3, pk_un q, pk_un q, pk_un q]
          exact ⟨j1, j2, fun n => ⟨(j3 n).1, mono _ (j3 n).2⟩⟩
    · have bw : bt (E.1 0) w = false := by simpa using b
      have bu : bt (E.1 0) (rU s w) = true := by
        cases q : bt (E.1 0) (rU s w) with
        | false => exact absurd (bw.trans q.symm) c
        | true => rfl
      have tw : rT s w = rT s v := by rw [← htu]; exact (i1 _ (by omega) bu).2
      have ncm : ¬ cm (rU s) (rH s) v w := by
        intro q
        have n2 : rU s w ≠ v := fun z => by
          have := q.1
          rw [z] at eh
          omega
        have h1 := ((i4 _ hu24 bu).2.2 n2).2
        rw [next_down W hv g q, bw] at h1
        cases h1
      obtain ⟨-, d1, d2⟩ := way_up (wt := rW s) T hw hv tw ncm
      have n1 : w ≠ v := fun z => ncm (z ▸ cm_refl _)
      rw [if_neg b]
      simp only [bind1]
      have k1 : f_X2_stepsTo (setI E 0 (E.1 0 ||| f_X4_of (nI w))) (nI (rU s w)) = nI (yD s (rU s w) v) := by
        unfold f_X2_stepsTo
        rw [at_n _ hu24 (by decide), setI_2]
        exact (i4 _ hu24 bu).1
      rw [k1, put_n _ _ hw24 (by decide)]
      have k2 : f_X2_cellsTo (setF (setI E 0 (E.1 0 ||| f_X4_of (nI w))) 1 (upd ((setI E 0 (E.1 0 ||| f_X4_of (nI w))).2 1) w (nI (yD s (rU s w) v) + 1))) (nI (rU s w)) = nI (yC s (rU s w) v) := by
        unfold f_X2_cellsTo
        rw [at_n _ hu24 (by decide), setF_n _ _ (by decide), setI_2]
        exact (i4 _ hu24 bu).2.1
      rw [k2, put_n _ _ hw24 (by decide), put_n _ _ hw24 (by decide), difc_n R hw w0]
      have q1 : nI (yD s (rU s w) v) + 1 = nI (yD s w v) := by rw [nI_1]; exact congrArg nI d1.symm
      have q2 : nI (yC s (rU s w) v) + nI (rW s w) = nI (yC s w v) := by rw [nI_add, Nat.add_comm]; exact congrArg nI d2.symm
      rw [q1, q2]
      generalize hZ : setF (setF (setF (setI E 0 (E.1 0 ||| f_X4_of (nI w))) 1 _) 2 _) 3 _ = Z
      have z0 : ∀ i, i < 32 → bt (Z.1 0) i = (bt (E.1 0) i || decide (i = w)) := by
        intro i hi
        rw [← hZ]
        show bt (E.1 0 ||| f_X4_of (nI w)) i = _
        rw [bt_or, bt_of (by omega) hi]
      have z1 : Z.2 1 = upd (E.2 1) w (nI (yD s w v)) := by rw [← hZ]; rfl
      have z2 : Z.2 2 = upd (E.2 2) w (nI (yC s w v)) := by rw [← hZ]; rfl
      have z3 : Z.2 3 = upd (E.2 3) w (nI (rU s w)) := by rw [← hZ]; rfl
      have mono : ∀ i, bt (E.1 0) i = true → bt (Z.1 0) i = true := by
        intro i hi
        by_cases q : i < 32
        · rw [z0 i q, hi]; rfl
        · have : bt (E.1 0) i = false := BitVec.getLsbD_of_ge _ _ (by omega)
          rw [this] at hi; cases hi
      refine ⟨⟨fun i hi h => ?_, mono v i2, ?_, fun u hu1 h => ?_⟩, mono, Or.inr ⟨w, hw24, bw, by rw [z0 _ (by omega)]; simp⟩⟩
      · rw [z0 i hi] at h
        by_cases q : i = w
        · rw [q]
          exact ⟨hw, tw⟩
        · simp [q] at h
          exact i1 i hi h
      · rw [z3, pk_un (Ne.symm n1)]
        exact i3
      · by_cases q : u = w
        · subst q
          rw [z1, z2, z3, pk_us, pk_us, pk_us, next_up W hw hv tw ncm]
          exact ⟨rfl, rfl, fun _ => ⟨rfl, mono _ bu⟩⟩
        · rw [z0 u (by omega)] at h
          simp [q] at h
          obtain ⟨j1, j2, j3⟩ := i4 u hu1 h
          rw [z1, z2, z3, pk_un q, pk_un q, pk_un q]
          exact ⟨j1, j2, fun n => ⟨(j3 n).1, mono _ (j3 n).2⟩⟩
/-- closed: no kept edge leaves what is reached -/
def CLO (s : Nat → Int32) (E : CS) : Prop := ∀ w, rP s w → rH s w = true → bt (E.1 0) w = bt (E.1 0) (rU s w)
theorem pass_n (W : SH s) (R : RS N s) (hv : rP s v) (rec : CS → Int32 → Nat → CS) (E0 : CS) (k : Nat) : ∀ (n i : Nat) (E : CS), i ≤ 24 → i + n = 25 → 1 ≤ i → INV s v E → ∃ Z, l_X2_spread_63 rec N E0 k n E i = rec Z (E0.1 0) (k + 1) ∧ INV s v Z ∧ (∀ j, bt (E.1 0) j = true → bt (Z.1 0) j = true) ∧ ((Z = E ∧ ∀ w, i ≤ w → rP s w → rH s w = true → bt (E.1 0) w = bt (E.1 0) (rU s w)) ∨ ∃ x, x < 24 ∧ bt (E.1 0) x = false ∧ bt (Z.1 0) x = true) := by
  intro n
  induction n with
  | zero => intro i E h1 h2; omega
  | succ n ih =>
    intro i E h1 h2 h3 I
    rw [l_X2_spread_63]
    simp only [bind1]
    by_cases c : i < 24
    · rw [if_pos c, kept_b R c]
      by_cases d : (pB s i && rH s i) = true
      · rw [if_pos d]
        obtain ⟨d1, d2⟩ := Bool.and_eq_true_iff.mp d
        obtain ⟨a1, a2, a3⟩ := along_n W R hv I (pB_iff.mp d1) d2
        obtain ⟨Z, b1, b2, b3, b4⟩ := ih (i + 1) (f_X2_spreadAlong E N (nI i)) (by omega) (by omega) (by omega) a1
        refine ⟨Z, b1, b2, fun j hj => b3 j (a2 j hj), ?_⟩
        rcases a3 with ⟨a4, a5⟩ | ⟨x, x1, x2, x3⟩
        · rw [a4] at b4
          rcases b4 with ⟨b5, b6⟩ | b5
          · refine Or.inl ⟨b5, fun w hw p q => ?_⟩
            by_cases z : w = i
            · rw [z]; exact a5
            · exact b6 w (by omega) p q
          · exact Or.inr b5
        · exact Or.inr ⟨x, x1, x2, b3 x x3⟩
      · rw [if_neg d]
        obtain ⟨Z, b1, b2, b3, b4⟩ := ih (i + 1) E (by omega) (by omega) (by omega) I
        refine ⟨Z, b1, b2, b3, ?_⟩
        rcases b4 with ⟨b5, b6⟩ | b5
        · refine Or.inl ⟨b5, fun w hw p q => ?_⟩
          by_cases z : w = i
          · subst z
            exact absurd (by rw [pB_iff.mpr p, q]; rfl) d
          · exact b6 w (by omega) p q
        · exact Or.inr b5
    · rw [if_neg c]
      exact ⟨E, rfl, I, fun j h => h, Or.inl ⟨rfl, fun w hw p => by have := p.1; omega⟩⟩
theorem outer_n (W : SH s) (R : RS N s) (hv : rP s v) : ∀ (n k : Nat) (E : CS) (x : Int32), k ≤ 24 → k + n = 25 → INV s v E → (E.1 0 = x → CLO s E) → (E.1 0 ≠ x → k < cntB (bt (E.1 0)) 24) → INV s v (l_X2_spread_40 N n E x k) ∧ CLO s (l_X2_spread_40 N n E x k) := by
  intro n
  induction n with
  | zero => intro k E x h1 h2; omega
  | succ n ih =>
    intro k E x h1 h2 I h3 h4
    rw [l_X2_spread_40]
    by_cases c : k < 24
    · rw [if_pos c]
      by_cases d : E.1 0 = x
      · rw [if_pos d]
        exact ⟨I, h3 d⟩
      · rw [if_neg d]
        obtain ⟨Z, b1, b2, b3, b4⟩ := pass_n W R hv (fun E_40 x3_40 i4_40 => l_X2_spread_40 N n E_40 x3_40 i4_40) E k 24 1 E (by omega) (by omega) (by omega) I
        rw [b1]
        refine ih (k + 1) Z (E.1 0) (by omega) (by omega) b2 (fun q => ?_) (fun q => ?_)
        · rcases b4 with ⟨b5, b6⟩ | ⟨y, y1, y2, y3⟩
          · rw [b5]
            exact fun w p g => b6 w (rH_pos g).1 p g
          · rw [q, y2] at y3
            cases y3
        · rcases b4 with ⟨b5, b6⟩ | ⟨y, y1, y2, y3⟩
          · exact absurd (by rw [b5]) q
          · have := cntB_lt (p := bt (E.1 0)) (q := bt (Z.1 0)) y1 (fun i _ h => b3 i h) y2 y3
            have := h4 d
            omega
    · rw [if_neg c]
      refine ⟨I, h3 ?_⟩
      by_cases d : E.1 0 = x
      · exact d
      · have := h4 d
        have := cntB_le (bt (E.1 0)) 24
        omega
theorem spread_n (W : SH s) (R : RS N s) (hv : rP s v) (E : CS) : SPR s v (f_X2_spread E N (nI v)) := by
  have T := W.tr
  have hv24 := hv.1
  unfold f_X2_spread
  simp only [bind1]
  rw [put_n _ _ hv24 (by decide), put_n _ _ hv24 (by decide), put_n _ _ hv24 (by decide)]
  generalize hZ : setF (setF (setF (setI E 0 (f_X4_of (nI v))) 1 _) 2 _) 3 _ = Z
  have z0 : ∀ i, i < 32 → bt (Z.1 0) i = decide (i = v) := by
    intro i hi
    rw [← hZ]
    exact bt_of (by omega) hi
  have z1 : Z.2 1 v = nI 0 := by rw [← hZ]; exact pk_us
  have z2 : Z.2 2 v = nI 0 := by rw [← hZ]; exact pk_us
  have z3 : Z.2 3 v = nI v := by rw [← hZ]; exact pk_us
  have I : INV s v Z := by
    refine ⟨fun i hi h => ?_, by rw [z0 v (by omega)]; simp, z3, fun u hu h => ?_⟩
    · rw [z0 i hi] at h
      have : i = v := by simpa using h
      rw [this]
      exact ⟨hv, rfl⟩
    · rw [z0 u (by omega)] at h
      have : u = v := by simpa using h
      subst this
      refine ⟨?_, ?_, fun n => absurd rfl n⟩
      · rw [z1]; exact congrArg nI (way_self (wt := rW s) T hv).1.symm
      · rw [z2]; exact congrArg nI (way_self (wt := rW s) T hv).2.symm
  have nz : Z.1 0 ≠ 0 := fun q => by
    have h1 := z0 v (by omega)
    rw [q, bt_0] at h1
    simp at h1
  obtain ⟨F, C⟩ := outer_n W R hv 25 0 Z 0 (by decide) (by decide) I (fun q => absurd q nz) (fun _ => by
    have h1 : cntB (fun _ => false) 24 < cntB (bt (Z.1 0)) 24 := cntB_lt hv24 (fun i _ h => by cases h) rfl (by rw [z0 v (by omega)]; simp)
    have h2 : cntB (fun _ => false) 24 = 0 := by decide
    omega)
  generalize l_X2_spread_40 N 25 Z 0 0 = G at F C
  obtain ⟨i1, i2, i3, i4⟩ := F
  have up : ∀ (n u : Nat), rP s u → ht (rU s) (rH s) u ≤ n → bt (G.1 0) u = bt (G.1 0) (rT s u) := by
    intro n
    induction n with
    | zero =>
      intro u hu hn
      have g : ¬ rH s u = true := fun g => by have := ht_hg T hu g; omega
      rw [show rT s u = u from tp_no g]
    | succ n ih =>
      intro u hu hn
      by_cases g : rH s u = true
      · have := ht_hg T hu g
        rw [C u hu g, ih _ (T.2.1 u hu g) (by omega), show rT s (rU s u) = rT s u from tp_up T hu g]
      · rw [show rT s u = u from tp_no g]
  have all : ∀ u, inT s v u → bt (G.1 0) u = true := by
    intro u hu
    rw [up _ u hu.1 (Nat.le_refl _), hu.2, ← up _ v hv (Nat.le_refl _)]
    exact i2
  refine ⟨fun i hi => ⟨i1 i hi, all i⟩, i3, fun u hu => ?_⟩
  obtain ⟨j1, j2, j3⟩ := i4 u hu.1.1 (all u hu)
  exact ⟨j1, j2, fun n => (j3 n).1⟩
end SP
