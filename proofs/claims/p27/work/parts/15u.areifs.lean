/-! PURE PART. areIfsSo: the end, the common source, what is undone -/
section IFS1
variable {N : CS} {s : Nat → Int32} {B : Nat}
theorem cmn_comm (W : SH s) {u v : Nat} (hu : rP s u) (hv : rP s v) : cmn s u v = cmn s v u := AA_meet W.tz hu hv (by rw [tz_0 W hu, tz_0 W hv])
theorem ifs354 (h : OKB N s B) {v u : Nat} (hv : rP s v) (hu : rP s u) {Q : HS} {k : Nat} (hq : HQ Q k) (M F E : CS) (z3 : Int32 × CS) (h3 : z3.1 = csum s v 24) {x : Int32} (hx : ¬ x < 0) : RES s B (ok_L_areIfsSo_354 M (nI v) (nI u) z3 1 N x E (nI (cmn s v u))) (k_L_areIfsSo_354 M (nI v) (nI u) z3 F 1 N Q x E (nI (cmn s v u))) := by
  have K := h.toS
  have n10 : ¬ (1 : Int32) = 0 := by decide
  have c1 := com_c K hv hu M
  have c2 := com_c K hu hv M
  rw [cmn_comm K.1 hu hv] at c2
  have u1 := unl_c K hv hu M
  have u2 := unl_c K hu hv M
  rw [uc_comm] at u2
  have i1 := ifr_c K hv M
  unfold ok_L_areIfsSo_354 k_L_areIfsSo_354
  simp only [n10, hx, c1, c2, u1, u2, i1, h3, bind1, ↓reduceIte, if_true, if_false, true_and, not_true_eq_false, not_false_eq_true, Bool.false_eq_true, true_implies, false_implies, and_true, implies_true, and_self]
  exact ⟨trivial, rfl, h, k, hq⟩
theorem ifs320 (h : OKB N s B) {v u : Nat} (hv : rP s v) (hu : rP s u) {Q : HS} {k : Nat} (hq : HQ Q k) (M F : CS) (z3 : Int32 × CS) (h3 : z3.1 = csum s v 24) {x : Int32} (hx : ¬ x < 0) : ∀ (m j : Nat), j ≤ AA (rU s) hz u v → AA (rU s) hz u v < j + m → ∀ E : CS, RES s B (ol_L_areIfsSo_320 M (nI v) (nI u) z3 1 N x m E (nI (itr (rU s) j u)) j) (l_L_areIfsSo_320 M (nI v) (nI u) z3 F 1 N Q x m E (nI (itr (rU s) j u)) j) := by
  have K := h.toS
  have W := h.1
  have T := W.tz
  have e : tp (rU s) hz u = tp (rU s) hz v := by rw [tz_0 W hu, tz_0 W hv]
  obtain ⟨a1, a2, a3⟩ := AA_spec T hu hv e
  have hl := ht_le T hu
  have c1 := com_c K hv hu M
  have cc : cmn s v u = itr (rU s) (AA (rU s) hz u v) u := cmn_comm W hv hu
  have pc := (it_P T (AA (rU s) hz u v) u hu a1)
  intro m
  induction m with
  | zero => intro j h1 h2; omega
  | succ m ih =>
    intro j h1 h2 E
    obtain ⟨b1, b2⟩ := it_P T j u hu (by omega)
    have t1 := b1.1
    have t2 := pc.1.1
    have j24 : j < 24 := by omega
    have q : nI (itr (rU s) j u) = nI (cmn s v u) ↔ j = AA (rU s) hz u v := by
      rw [cc, nI_eq (by omega) (by omega)]
      constructor
      · intro z
        have p2 := pc.2
        rw [z, p2] at b2
        omega
      · intro z
        rw [z]
    rw [ol_L_areIfsSo_320, l_L_areIfsSo_320]
    by_cases d : j = AA (rU s) hz u v
    · have q := q.mpr d
      rw [q]
      simp only [j24, c1, ↓reduceIte, if_true, if_false, true_and, not_true_eq_false, not_false_eq_true, Bool.false_eq_true, true_implies, false_implies, and_true]
      exact ifs354 h hv hu hq M F E z3 h3 hx
    · have q : ¬ nI (itr (rU s) j u) = nI (cmn s v u) := fun z => d (q.mp z)
      have g := hg_of T (v := itr (rU s) j u) (by omega)
      have g0 : (0 : Int32) < nI (itr (rU s) j u) := (nI_ltI (a := 0) (by decide) (by omega)).mpr (hz_iff.mp g)
      have v0 := ver0 K b1 (hz_iff.mp g) M
      have go := ih (j + 1) (by omega) (by omega)
      rw [itr_succ (rU s)] at go
      simp only [j24, c1, q, g0, v0, bind1, ↓reduceIte, if_true, if_false, true_and, not_true_eq_false, not_false_eq_true, Bool.false_eq_true, true_implies, false_implies, and_true]
      exact go _
/-- behind A acts: A times undo, and the state says the same as before them -/
def UND (s : Nat → Int32) (B A : Nat) (N : CS) (Q : HS) : Prop := ∃ k, HQ Q (k + A) ∧ (A = 0 → OKB N s B) ∧ (0 < A → OKB (topQ Q k) s B)
theorem UND.none (h : OKB N s B) {Q : HS} {k : Nat} (hq : HQ Q k) : UND s B 0 N Q := ⟨k, hq, fun _ => h, fun z => absurd z (Nat.lt_irrefl 0)⟩
theorem UND.ok {A : Nat} {Q : HS} (h : UND s B A N Q) : okH Q := by
  obtain ⟨k, h1, -⟩ := h
  exact h1.2.2.1
theorem UND.push {A : Nat} {Q : HS} (h : UND s B A N Q) (hA : A ≤ 1) (F N2 : CS) : UND s B (A + 1) N2 (f_X0_record Q (f_X5_copyFrom F N)) := by
  obtain ⟨k, h1, h2, h3⟩ := h
  obtain ⟨-, k', q, sm, up⟩ := rec_n h1 (f_X5_copyFrom F N)
  rcases (show A = 0 ∨ A = 1 by omega) with rfl | rfl
  · exact ⟨k', q, fun z => by omega, fun _ => (h2 rfl).same ((copy_same F N).trans sm)⟩
  · obtain ⟨u1, u2⟩ := up (by omega)
    refine ⟨k' - 1, by rw [show k' - 1 + (1 + 1) = k' + 1 by omega]; exact q, fun z => by omega, fun _ => ?_⟩
    rw [u2]
    exact h3 (by decide)
theorem ifs287 {v u : Nat} (hv : rP s v) (hu : rP s u) (M F E : CS) (z3 : Int32 × CS) (h3 : z3.1 = csum s v 24) (tot : Nat) (ht : tot < 10) : ∀ (A m i : Nat), A < m → i + A = tot → ∀ (N : CS) (Q : HS) (x : Int32), UND s B A N Q → ¬ x < 0 → RES s B (ol_L_areIfsSo_287 M (nI v) (nI u) z3 E 1 (nI tot) m N Q x i) (l_L_areIfsSo_287 M (nI v) (nI u) z3 E F 1 (nI tot) m N Q x i) := by
  intro A
  induction A with
  | zero =>
    intro m i hm hi N Q x un hx
    obtain ⟨k, hq, h2, -⟩ := un
    have h := h2 rfl
    obtain ⟨m, rfl⟩ : ∃ m', m = m' + 1 := ⟨m - 1, by omega⟩
    have l : ¬ nI i < nI tot := nI_nlt (by omega) (by omega)
    rw [ol_L_areIfsSo_287, l_L_areIfsSo_287]
    simp only [l, if_false, true_and, not_false_eq_true, Bool.false_eq_true, true_implies, false_implies, and_true]
    have T := h.1.tz
    have hl := (AA_spec T hu hv (by rw [tz_0 h.1 hu, tz_0 h.1 hv])).1
    have hl2 := ht_le T hu
    exact ifs320 h hv hu hq M F z3 h3 hx 25 0 (Nat.zero_le _) (by omega) E
  | succ A ih =>
    intro m i hm hi N Q x un hx
    obtain ⟨k, hq, -, h3'⟩ := un
    have h := h3' (Nat.succ_pos A)
    obtain ⟨m, rfl⟩ : ∃ m', m = m' + 1 := ⟨m - 1, by omega⟩
    have l : nI i < nI tot := nI_lt (by omega) (by omega)
    obtain ⟨o, e, q⟩ := undo_n (k := k + A) hq M N
    rw [ol_L_areIfsSo_287, l_L_areIfsSo_287]
    simp only [l, o, e, bind1, ↓reduceIte, if_true, true_and, not_true_eq_false, Bool.false_eq_true, true_implies, false_implies, and_true]
    refine ih m (i + 1) (by omega) (by omega) _ _ _ ⟨k, q, fun z => ?_, fun _ => h⟩ (nI_pos (by have := hq.1; omega))
    subst z
    exact h.same (copy_same _ _)
theorem ifs281 {v u : Nat} (hv : rP s v) (hu : rP s u) (M F E N : CS) (Q : HS) (z3 : Int32 × CS) (h3 : z3.1 = csum s v 24) {A : Nat} (hA : A ≤ 2) (un : UND s B A N Q) : RES s B (oj_L_areIfsSo_281 M (nI v) (nI u) z3 E F N Q 1 (nI A)) (j_L_areIfsSo_281 M (nI v) (nI u) z3 E F N Q 1 (nI A)) :=
  ifs287 hv hu M F E z3 h3 A (by omega) A 4 0 (by omega) (by omega) N Q 0 un (by decide)
end IFS1
/-! what a change of the root alone leaves -/
def EQR (s s1 : Nat → Int32) : Prop := rU s1 = rU s ∧ rH s1 = rH s ∧ rW s1 = rW s ∧ pB s1 = pB s ∧ ∀ i, s1 (13 * i + 4) = s (13 * i + 4)
theorem EQR.rf (s : Nat → Int32) : EQR s s := ⟨rfl, rfl, rfl, rfl, fun _ => rfl⟩
theorem EQR.moved (s : Nat → Int32) (w x : Nat) : EQR s (mv s w x) := by
  have u : uc (mv s w x) = uc s := funext fun a => funext fun b => by
    unfold uc
    refine cntB_congr (fun c hc => ?_)
    unfold un
    rw [mv_o s w x (by omega), mv_o s w x (by omega)]
  refine ⟨rU_mv s w x, rH_mv s w x, funext fun v => ?_, funext fun v => ?_, fun i => mv_o s w x (by omega)⟩
  · unfold rW
    rw [u, rU_mv]
  · unfold pB
    rw [mv_o s w x (by omega)]
section EQRS
variable {s s1 : Nat → Int32}
theorem EQR.T (e : EQR s s1) {v : Nat} : rT s1 v = rT s v := by
  show tp (rU s1) (rH s1) v = _
  rw [e.1, e.2.1]
theorem EQR.C (e : EQR s s1) {u v : Nat} : yC s1 u v = yC s u v := by
  show CC (rU s1) (rH s1) (rW s1) u v = _
  rw [e.1, e.2.1, e.2.2.1]
theorem EQR.i (e : EQR s s1) {v i : Nat} : iT s1 v i = iT s v i := by
  unfold iT
  rw [e.2.2.2.1, e.T, e.T]
theorem EQR.sum (e : EQR s s1) {v : Nat} : ∀ i, csum s1 v i = csum s v i
  | 0 => rfl
  | i + 1 => by
    rw [csum, csum, EQR.sum e i, e.i, e.2.2.2.2, e.C]
theorem EQR.p (e : EQR s s1) {v : Nat} (h : rP s v) : rP s1 v := pB_iff.mp (by rw [e.2.2.2.1]; exact pB_iff.mpr h)
theorem EQR.p' (e : EQR s s1) {v : Nat} (h : rP s1 v) : rP s v := pB_iff.mp (by rw [← e.2.2.2.1]; exact pB_iff.mpr h)
end EQRS
