/-! PURE PART. the reference's row of 318 numbers, and what its readers answer -/
def rP (s : Nat → Int32) (v : Nat) : Prop := v < 24 ∧ s (13 * v) = 1
def rU (s : Nat → Int32) (v : Nat) : Nat := (s (13 * v + 1)).toNatClampNeg
def rH (s : Nat → Int32) (v : Nat) : Bool := decide (0 < v) && decide (s (13 * v + 2) = 1)
def rR (s : Nat → Int32) (v : Nat) : Prop := rP s v ∧ s (13 * v + 3) = 1
def un (s : Nat → Int32) (v u c : Nat) : Bool := !decide (s (13 * v + (5 + c)) = s (13 * u + (5 + c)))
def uc (s : Nat → Int32) (v u : Nat) : Nat := cntB (un s v u) 8
def rW (s : Nat → Int32) (v : Nat) : Nat := uc s v (rU s v)
abbrev rT (s : Nat → Int32) (v : Nat) : Nat := tp (rU s) (rH s) v
def hz (v : Nat) : Bool := decide (0 < v)
/-- the shape of a row: sources, no circles -/
def SH (s : Nat → Int32) : Prop := s 0 = 1 ∧ (∀ v, v < 24 → s (13 * v) = 0 ∨ s (13 * v) = 1) ∧ (∀ v, 0 < v → rP s v → s (13 * v + 1) = nI (rU s v) ∧ rP s (rU s v)) ∧ ∃ r : Nat → Nat, ∀ v, 0 < v → rP s v → r (rU s v) < r v
theorem rH_pos {s : Nat → Int32} {v : Nat} (h : rH s v = true) : 0 < v ∧ s (13 * v + 2) = 1 := by
  unfold rH at h
  simpa using h
theorem SH.tr {s : Nat → Int32} (h : SH s) : TR (rP s) (rU s) (rH s) := ⟨fun v hv => hv.1, fun v hv g => (h.2.2.1 v (rH_pos g).1 hv).2, h.2.2.2.elim fun r hr => ⟨r, fun v hv g => hr v (rH_pos g).1 hv⟩⟩
theorem SH.tz {s : Nat → Int32} (h : SH s) : TR (rP s) (rU s) hz := ⟨fun v hv => hv.1, fun v hv g => (h.2.2.1 v (by simpa [hz] using g) hv).2, h.2.2.2.elim fun r hr => ⟨r, fun v hv g => hr v (by simpa [hz] using g) hv⟩⟩
theorem SH.p0 {s : Nat → Int32} (h : SH s) : rP s 0 := ⟨by decide, h.1⟩
theorem src_n {s : Nat → Int32} (W : SH s) {v : Nat} (hv : rP s v) (h : 0 < v) : s (13 * v + 1) = nI (rU s v) := (W.2.2.1 v h hv).1
theorem cm_up_iff {P : Nat → Prop} {up : Nat → Nat} {hg : Nat → Bool} (T : TR P up hg) {v x : Nat} (hv : P v) (g : hg v = true) (e : v ≠ x) : cm up hg (up v) x ↔ cm up hg v x := by
  have h2 := ht_hg T hv g
  constructor
  · intro c
    exact cm_trans T hv (cm_up T hv (cm_refl v) g) c
  · intro c
    have h4 := c.1
    have h5 := c.2
    have h6 : ht up hg x < ht up hg v := by
      rcases Nat.lt_or_ge (ht up hg x) (ht up hg v) with q | q
      · exact q
      · rw [show ht up hg v - ht up hg x = 0 by omega] at h5
        exact absurd h5 e
    refine ⟨by omega, ?_⟩
    rw [show ht up hg v - ht up hg x = (ht up hg (up v) - ht up hg x) + 1 by omega] at h5
    exact h5
theorem cm_no {up : Nat → Nat} {hg : Nat → Bool} {v x : Nat} (g : ¬ hg v = true) (e : v ≠ x) : ¬ cm up hg v x := fun c => by
  have h5 := c.2
  rw [ht_no g, Nat.zero_sub] at h5
  exact e h5
/-! PURE PART. the reference lays a way -/
abbrev yA (s : Nat → Int32) (x v : Nat) : Nat := AA (rU s) (rH s) x v
abbrev yD (s : Nat → Int32) (x v : Nat) : Nat := DD (rU s) (rH s) x v
abbrev yC (s : Nat → Int32) (x v : Nat) : Nat := CC (rU s) (rH s) (rW s) x v
abbrev yP (s : Nat → Int32) (x v k : Nat) : Nat := PP (rU s) (rH s) x v k
theorem setI_s (S : CS) (j : Nat) (v : Int32) : (setI S j v).1 j = v := pk_us
theorem setI_n (S : CS) {i j : Nat} (v : Int32) (h : i ≠ j) : (setI S j v).1 i = S.1 i := pk_un h
theorem setI_2 (S : CS) (j : Nat) (v : Int32) : (setI S j v).2 = S.2 := rfl
theorem setF_1 (S : CS) (j : Nat) (f : Nat → Int32) : (setF S j f).1 = S.1 := rfl
theorem setF_s (S : CS) (j : Nat) (f : Nat → Int32) : (setF S j f).2 j = f := if_pos rfl
theorem setF_n (S : CS) {i j : Nat} (f : Nat → Int32) (h : i ≠ j) : (setF S j f).2 i = S.2 i := if_neg h
theorem uc_comm (s : Nat → Int32) (v u : Nat) : uc s v u = uc s u v := cntB_congr (fun i _ => by
  unfold un
  congr 1
  exact decide_eq_decide.mpr eq_comm)
theorem uc_le (s : Nat → Int32) (v u : Nat) : uc s v u ≤ 8 := cntB_le _ 8
theorem wC_step {s : Nat → Int32} (W : SH s) {x v k : Nat} (hx : rP s x) (hv : rP s v) (e : rT s x = rT s v) (hk : k < yD s x v) : yC s (yP s x v k) v = uc s (yP s x v k) (yP s x v (k + 1)) + yC s (yP s x v (k + 1)) v ∧ yD s (yP s x v k) v = yD s (yP s x v (k + 1)) v + 1 := by
  have T := W.tr
  obtain ⟨h1, h2⟩ := PP_P T hx hv e (Nat.le_of_lt hk)
  rcases PP_step T hx hv e hk with ⟨c, -, h⟩ | ⟨c, -, g, h, c2⟩
  · obtain ⟨g, d1, d2⟩ := way_up (wt := rW s) T h1 hv h2 c
    refine ⟨?_, ?_⟩
    · show CC _ _ _ (PP _ _ x v k) v = uc s (PP _ _ x v k) (PP _ _ x v (k + 1)) + CC _ _ _ (PP _ _ x v (k + 1)) v
      rw [h, d2]
      rfl
    · show DD _ _ (PP _ _ x v k) v = DD _ _ (PP _ _ x v (k + 1)) v + 1
      rw [h, d1]
  · obtain ⟨d1, d2⟩ := way_down (wt := rW s) T hv g c2
    rw [h] at d1 d2
    refine ⟨?_, d1⟩
    show CC _ _ _ (PP _ _ x v k) v = uc s (PP _ _ x v k) (PP _ _ x v (k + 1)) + CC _ _ _ (PP _ _ x v (k + 1)) v
    rw [d2, uc_comm]
    show uc s _ (rU s _) + _ = _
    rw [h]
theorem wC_le {s : Nat → Int32} (W : SH s) {x v : Nat} (hx : rP s x) (hv : rP s v) (e : rT s x = rT s v) : yC s x v ≤ 368 := by
  have T := W.tr
  have h1 := (AA_spec T hx hv e).1
  have h2 := (AA_spec T hv hx e.symm).1
  have h3 := ht_le T hx
  have h4 := ht_le T hv
  have h5 := UU_le (rU s) (rW s) 8 (fun v => uc_le s v _) (AA (rU s) (rH s) x v) x
  have h6 := UU_le (rU s) (rW s) 8 (fun v => uc_le s v _) (AA (rU s) (rH s) v x) v
  show UU _ _ _ _ + UU _ _ _ _ ≤ _
  omega
