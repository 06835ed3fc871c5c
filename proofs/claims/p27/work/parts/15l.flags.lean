/-! PURE PART. copies, bits of sets, roots, cuts, asking, births, removals: whole's lemmas of the class -/
/-! PURE PART. copies of states -/
/-- two states that say the same -/
def SAME (N N' : CS) : Prop := (∀ j, j = 0 ∨ j = 1 ∨ j = 2 ∨ (7 ≤ j ∧ j ≤ 12) → N'.1 j = N.1 j) ∧ (∀ i, i < 24 → N'.2 3 i = N.2 3 i ∧ N'.2 4 i = N.2 4 i ∧ N'.2 5 i = N.2 5 i) ∧ ∀ i, i < 192 → N'.2 6 i = N.2 6 i
theorem RS.same {N N' : CS} {s : Nat → Int32} (h : RS N s) (e : SAME N N') (W : ∀ v, rP s v → v < 24 := fun _ h => h.1) : RS N' s := by
  obtain ⟨e1, e2, e3⟩ := e
  obtain ⟨h1, h2, h3, h4, h5, h6, h7⟩ := h
  refine ⟨fun i hi => by rw [e1 0 (Or.inl rfl)]; exact h1 i hi, fun i hi => by rw [e1 1 (Or.inr (Or.inl rfl))]; exact h2 i hi, fun i hi => by rw [e1 2 (Or.inr (Or.inr (Or.inl rfl)))]; exact h3 i hi, ⟨by rw [(e2 0 (by decide)).1]; exact h4.1, by rw [(e2 0 (by decide)).2.1]; exact h4.2⟩, fun v p hv => ?_, fun v hv => ?_, fun j a b => by rw [e1 j (Or.inr (Or.inr (Or.inr ⟨a, b⟩)))]; exact h7 j a b⟩
  · rw [(e2 v hv.1).1, (e2 v hv.1).2.1]
    exact h5 v p hv
  · have v24 := hv.1
    rw [(e2 v v24).2.2]
    exact ⟨(h6 v hv).1, fun c hc => by rw [e3 _ (by omega)]; exact (h6 v hv).2 c hc⟩
theorem copy_same (S T : CS) : SAME T (f_X5_copyFrom S T) := by
  have c : ∀ (n : Nat) (f g : Nat → Int32) (i : Nat), i < n → f_X3_copy n f n g i = f i := by
    intro n f g i hi
    unfold f_X3_copy
    rw [if_neg (Nat.lt_irrefl n), pk_cpy_in (Nat.zero_le _) (by omega)]
    congr 1
    omega
  refine ⟨fun j hj => ?_, fun i hi => ⟨?_, ?_, ?_⟩, fun i hi => ?_⟩
  · rcases hj with rfl | rfl | rfl | ⟨a, b⟩
    · rfl
    · rfl
    · rfl
    · rcases (show j = 7 ∨ j = 8 ∨ j = 9 ∨ j = 10 ∨ j = 11 ∨ j = 12 by omega) with rfl | rfl | rfl | rfl | rfl | rfl <;> rfl
  · exact c 24 (T.2 3) _ i hi
  · exact c 24 (T.2 4) _ i hi
  · exact c 24 (T.2 5) _ i hi
  · exact c 192 (T.2 6) _ i hi
theorem OKS.copy {T : CS} {s : Nat → Int32} {n : Nat} (h : OKS T s n) (S : CS) : OKS (f_X5_copyFrom S T) s n := ⟨h.1, h.2.1, h.2.2.1.same (copy_same S T), h.2.2.2⟩
/-! PURE PART. flags of a row change: roots, differences kept, askings -/
def BNb (B : Nat) (s : Nat → Int32) : Prop := ∀ v, rP s v → ∃ k, k ≤ B ∧ s (13 * v + 4) = nI k
def OKB (N : CS) (s : Nat → Int32) (B : Nat) : Prop := SH s ∧ FL s ∧ RS N s ∧ BNb B s
def same3 (s s' : Nat → Int32) : Prop := ∀ j, j < 312 → j % 13 ≠ 2 → j % 13 ≠ 3 → j % 13 ≠ 4 → s' j = s j
section FLG
variable {N N' : CS} {s s' : Nat → Int32} {B : Nat}
theorem OKB.toS (h : OKB N s B) : OKS N s B := ⟨h.1, h.2.1, h.2.2.1, fun v hv => by
  obtain ⟨k, a, b⟩ := h.2.2.2 v hv
  exact ⟨k, by omega, b⟩⟩
theorem OKB.mono (h : OKB N s B) {B' : Nat} (hb : B ≤ B') : OKB N s B' := ⟨h.1, h.2.1, h.2.2.1, fun v hv => by
  obtain ⟨k, a, b⟩ := h.2.2.2 v hv
  exact ⟨k, by omega, b⟩⟩
theorem p_i (R : RS N s) {i : Nat} (hi : i < 32) : bt (N.1 0) i = true ↔ rP s i := by
  rw [R.1 i hi]
  exact pB_iff
theorem k_i (R : RS N s) {i : Nat} (hi : i < 32) : bt (N.1 1) i = true ↔ rP s i ∧ rH s i = true := by
  rw [R.2.1 i hi, Bool.and_eq_true, pB_iff]
theorem t_i (R : RS N s) {i : Nat} (hi : i < 32) : bt (N.1 2) i = true ↔ rR s i := by
  rw [R.2.2.1 i hi]
  exact tB_iff
theorem bor_i {x : Int32} {v i : Nat} (hv : v < 24) (hi : i < 32) : bt (x ||| f_X4_of (nI v)) i = true ↔ (bt x i = true ∨ i = v) := by
  rw [bt_or, bt_of (by omega) hi, Bool.or_eq_true, decide_eq_true_iff]
theorem band_i {x : Int32} {v i : Nat} (hv : v < 24) (hi : i < 32) : bt (x &&& (f_X4_of (nI v) ^^^ (-1))) i = true ↔ (bt x i = true ∧ i ≠ v) := by
  rw [bt_and, bt_not hi, bt_of (by omega) hi, Bool.and_eq_true]
  simp
theorem rP_3 (e : same3 s s') {v : Nat} : rP s' v ↔ rP s v := by
  unfold rP
  constructor
  · rintro ⟨a, b⟩
    exact ⟨a, by rw [← e (13 * v) (by omega) (by omega) (by omega) (by omega)]; exact b⟩
  · rintro ⟨a, b⟩
    exact ⟨a, by rw [e (13 * v) (by omega) (by omega) (by omega) (by omega)]; exact b⟩
theorem rU_3 (e : same3 s s') {v : Nat} (hv : v < 24) : rU s' v = rU s v := by
  unfold rU
  rw [e _ (by omega) (by omega) (by omega) (by omega)]
theorem un_3 (e : same3 s s') {v u c : Nat} (hv : v < 24) (hu : u < 24) (hc : c < 8) : un s' v u c = un s v u c := by
  unfold un
  rw [e (13 * v + (5 + c)) (by omega) (by omega) (by omega) (by omega), e (13 * u + (5 + c)) (by omega) (by omega) (by omega) (by omega)]
theorem SH.s3 (W : SH s) (e : same3 s s') : SH s' := by
  refine ⟨by rw [e 0 (by decide) (by decide) (by decide) (by decide)]; exact W.1, fun v hv => by rw [e _ (by omega) (by omega) (by omega) (by omega)]; exact W.2.1 v hv, fun v p hv => ?_, ?_⟩
  · have hv := (rP_3 e).mp hv
    have v24 := hv.1
    rw [rU_3 e hv.1, e (13 * v + 1) (by omega) (by omega) (by omega) (by omega)]
    exact ⟨(W.2.2.1 v p hv).1, (rP_3 e).mpr (W.2.2.1 v p hv).2⟩
  · obtain ⟨r, hr⟩ := W.2.2.2
    exact ⟨r, fun v p hv => by
      have hv := (rP_3 e).mp hv
      rw [rU_3 e hv.1]
      exact hr v p hv⟩
theorem RS.flags (R : RS N s) (W : SH s) (e : same3 s s') (n0 : N'.1 0 = N.1 0) (n1 : ∀ i, i < 32 → (bt (N'.1 1) i = true ↔ rP s i ∧ rH s' i = true)) (n2 : ∀ i, i < 32 → (bt (N'.1 2) i = true ↔ rP s i ∧ s' (13 * i + 3) = 1)) (m3 : N'.2 3 = N.2 3) (m4 : N'.2 4 = N.2 4) (m6 : N'.2 6 = N.2 6) (m5 : ∀ v, rP s v → N'.2 5 v = s' (13 * v + 4)) (g : ∀ j, 7 ≤ j → j ≤ 12 → N'.1 j = s' (305 + j)) : RS N' s' := by
  have pe : ∀ i, pB s' i = pB s i := fun i => Bool.eq_iff_iff.mpr (by rw [pB_iff, pB_iff]; exact rP_3 e)
  refine ⟨fun i hi => by rw [n0, pe]; exact R.1 i hi, fun i hi => ?_, fun i hi => ?_, by rw [m3, m4]; exact R.2.2.2.1, fun v p hv => ?_, fun v hv => ?_, g⟩
  · rw [Bool.eq_iff_iff, n1 i hi, Bool.and_eq_true, pB_iff, rP_3 e]
  · rw [Bool.eq_iff_iff, n2 i hi, tB_iff]
    unfold rR
    rw [rP_3 e]
  · have hv := (rP_3 e).mp hv
    have hu := (W.2.2.1 v p hv).2.1
    rw [m3, m4, rU_3 e hv.1]
    refine ⟨(R.2.2.2.2.1 v p hv).1, fun j hj => ?_⟩
    rw [(R.2.2.2.2.1 v p hv).2 j hj]
    by_cases c : j < 8
    · rw [un_3 e hv.1 hu c]
    · simp [c]
  · have hv := (rP_3 e).mp hv
    have v24 := hv.1
    refine ⟨m5 v hv, fun c hc => ?_⟩
    rw [m6, (R.2.2.2.2.2.1 v hv).2 c hc, e (13 * v + (5 + c)) (by omega) (by omega) (by omega) (by omega)]
theorem OKB.flags (h : OKB N s B) (e : same3 s s') (fl : FL s') (n0 : N'.1 0 = N.1 0) (n1 : ∀ i, i < 32 → (bt (N'.1 1) i = true ↔ rP s i ∧ rH s' i = true)) (n2 : ∀ i, i < 32 → (bt (N'.1 2) i = true ↔ rP s i ∧ s' (13 * i + 3) = 1)) (m3 : N'.2 3 = N.2 3) (m4 : N'.2 4 = N.2 4) (m6 : N'.2 6 = N.2 6) {B' : Nat} (m5 : ∀ v, rP s v → N'.2 5 v = s' (13 * v + 4) ∧ ∃ k, k ≤ B' ∧ s' (13 * v + 4) = nI k) (g : ∀ j, 7 ≤ j → j ≤ 12 → N'.1 j = s' (305 + j)) : OKB N' s' B' :=
  ⟨h.1.s3 e, fl, h.2.2.1.flags h.1 e n0 n1 n2 m3 m4 m6 (fun v hv => (m5 v hv).1) g, fun v hv => (m5 v ((rP_3 e).mp hv)).2⟩
theorem tr_any (W : SH s) (z : Nat → Int32) : TR (rP s) (rU s) (rH z) := ⟨fun v hv => hv.1, fun v hv g => (W.2.2.1 v (rH_pos g).1 hv).2, W.2.2.2.elim fun r hr => ⟨r, fun v hv g => hr v (rH_pos g).1 hv⟩⟩
theorem rT_3 (W : SH s) (e : same3 s s') {v : Nat} (hv : rP s v) : rT s' v = tp (rU s) (rH s') v := (tree_congr (tr_any W s') (fun _ _ => rfl) (fun v hv _ => rU_3 e hv.1) _ v hv (Nat.le_refl _)).2.1
theorem FL.move (W : SH s) (L : FL s) (e : same3 s s') (e2 : ∀ v, rP s v → s' (13 * v + 2) = s (13 * v + 2)) (e312 : G3 s') {w x : Nat} (hw : rR s w) (hx : rP s x) (hwx : rT s w = rT s x) (e3 : ∀ y, rP s y → (s' (13 * y + 3) = 1 ↔ (y = x ∨ (y ≠ w ∧ s (13 * y + 3) = 1)))) : FL s' := by
  have hH : ∀ v, rP s v → rH s' v = rH s v := fun v hv => by unfold rH; rw [e2 v hv]
  have hT : ∀ v, rP s v → rT s' v = rT s v := fun v hv => (tree_congr W.tr hH (fun v hv _ => rU_3 e hv.1) _ v hv (Nat.le_refl _)).2.1
  refine ⟨fun v p hv => ?_, fun v hv => ?_, fun y1 y2 h1 h2 t => ?_, e312, by rw [e 1 (by decide) (by decide) (by decide) (by decide)]; exact L.2.2.2.2⟩
  · have hv := (rP_3 e).mp hv
    rw [e2 v hv]
    exact L.1 v p hv
  · have hv := (rP_3 e).mp hv
    obtain ⟨r, a, b⟩ := L.2.1 v hv
    by_cases c : r = w
    · refine ⟨x, ⟨(rP_3 e).mpr hx, (e3 x hx).mpr (Or.inl rfl)⟩, ?_⟩
      rw [hT x hx, hT v hv, ← hwx, ← c]
      exact b
    · refine ⟨r, ⟨(rP_3 e).mpr a.1, (e3 r a.1).mpr (Or.inr ⟨c, a.2⟩)⟩, ?_⟩
      rw [hT r a.1, hT v hv]
      exact b
  · have p1 := (rP_3 e).mp h1.1
    have p2 := (rP_3 e).mp h2.1
    rw [hT y1 p1, hT y2 p2] at t
    rcases (e3 y1 p1).mp h1.2 with q1 | ⟨a1, b1⟩
    · rcases (e3 y2 p2).mp h2.2 with q2 | ⟨a2, b2⟩
      · rw [q1, q2]
      · exact absurd (L.2.2.1 y2 w ⟨p2, b2⟩ hw (by rw [← t, q1, hwx])) a2
    · rcases (e3 y2 p2).mp h2.2 with q2 | ⟨a2, b2⟩
      · exact absurd (L.2.2.1 y1 w ⟨p1, b1⟩ hw (by rw [t, q2, hwx])) a1
      · exact L.2.2.1 y1 y2 ⟨p1, b1⟩ ⟨p2, b2⟩ t
theorem FL.cut (W : SH s) (L : FL s) (e : same3 s s') {x w y : Nat} (hx : rP s x) (gx : rH s x = true) (e2 : ∀ v, rP s v → v ≠ x → s' (13 * v + 2) = s (13 * v + 2)) (e2x : s' (13 * x + 2) = 0) (e312 : G3 s') (hw : rR s w) (hwx : rT s w = rT s x) (hy : rP s y) (hyx : rT s y = rT s x) (hc : cm (rU s) (rH s) y x ↔ ¬ cm (rU s) (rH s) w x) (e3 : ∀ u, rP s u → (s' (13 * u + 3) = 1 ↔ (u = y ∨ s (13 * u + 3) = 1))) : FL s' := by
  have T := W.tr
  have hH : ∀ v, rP s v → v ≠ x → rH s' v = rH s v := fun v hv n => by unfold rH; rw [e2 v hv n]
  have gx' : rH s' x = false := by
    unfold rH
    rw [e2x]
    simp
  have hT : ∀ v, rP s v → rT s' v = if cm (rU s) (rH s) v x then x else rT s v := fun v hv => by
    rw [rT_3 W e hv]
    exact tp_cut T (tr_any W s') gx' hH gx _ v hv (Nat.le_refl _)
  have ct : ∀ v, rP s v → cm (rU s) (rH s) v x → rT s v = rT s x := fun v hv c => (cm_tp' T hv c).symm
  have nx : ∀ v, rP s v → ¬ cm (rU s) (rH s) v x → rT s v ≠ x := fun v hv c q => c (q ▸ cm_top T hv)
  refine ⟨fun v p hv => ?_, fun v hv => ?_, fun y1 y2 h1 h2 t => ?_, e312, by rw [e 1 (by decide) (by decide) (by decide) (by decide)]; exact L.2.2.2.2⟩
  · have hv := (rP_3 e).mp hv
    by_cases c : v = x
    · rw [c]
      exact Or.inl e2x
    · rw [e2 v hv c]
      exact L.1 v p hv
  · have hv := (rP_3 e).mp hv
    by_cases t : rT s v = rT s x
    · by_cases c : cm (rU s) (rH s) v x ↔ cm (rU s) (rH s) w x
      · refine ⟨w, ⟨(rP_3 e).mpr hw.1, (e3 w hw.1).mpr (Or.inr hw.2)⟩, ?_⟩
        rw [hT w hw.1, hT v hv]
        by_cases d : cm (rU s) (rH s) v x
        · rw [if_pos d, if_pos (c.mp d)]
        · rw [if_neg d, if_neg (fun z => d (c.mpr z)), hwx, t]
      · refine ⟨y, ⟨(rP_3 e).mpr hy, (e3 y hy).mpr (Or.inl rfl)⟩, ?_⟩
        rw [hT y hy, hT v hv]
        by_cases d : cm (rU s) (rH s) v x
        · have z : ¬ cm (rU s) (rH s) w x := fun z => c ⟨fun _ => z, fun _ => d⟩
          rw [if_pos d, if_pos (hc.mpr z)]
        · have z : cm (rU s) (rH s) w x := Classical.byContradiction (fun z => c ⟨fun q => absurd q d, fun q => absurd q z⟩)
          rw [if_neg d, if_neg (fun q => hc.mp q z), hyx, t]
    · obtain ⟨r, a, b⟩ := L.2.1 v hv
      have n1 : ¬ cm (rU s) (rH s) v x := fun z => t (ct v hv z)
      have n2 : ¬ cm (rU s) (rH s) r x := fun z => t (b.symm.trans (ct r a.1 z))
      refine ⟨r, ⟨(rP_3 e).mpr a.1, (e3 r a.1).mpr (Or.inr a.2)⟩, ?_⟩
      rw [hT r a.1, hT v hv, if_neg n1, if_neg n2]
      exact b
  · have p1 := (rP_3 e).mp h1.1
    have p2 := (rP_3 e).mp h2.1
    have key : rT s y1 = rT s y2 ∧ (cm (rU s) (rH s) y1 x ↔ cm (rU s) (rH s) y2 x) := by
      rw [hT y1 p1, hT y2 p2] at t
      by_cases d1 : cm (rU s) (rH s) y1 x
      · by_cases d2 : cm (rU s) (rH s) y2 x
        · exact ⟨(ct y1 p1 d1).trans (ct y2 p2 d2).symm, ⟨fun _ => d2, fun _ => d1⟩⟩
        · rw [if_pos d1, if_neg d2] at t
          exact absurd t.symm (nx y2 p2 d2)
      · by_cases d2 : cm (rU s) (rH s) y2 x
        · rw [if_neg d1, if_pos d2] at t
          exact absurd t (nx y1 p1 d1)
        · rw [if_neg d1, if_neg d2] at t
          exact ⟨t, ⟨fun z => absurd z d1, fun z => absurd z d2⟩⟩
    obtain ⟨t1, t2⟩ := key
    have no : ∀ u1 u2, u1 = y → rR s u2 → rT s u1 = rT s u2 → (cm (rU s) (rH s) u1 x ↔ cm (rU s) (rH s) u2 x) → False := by
      intro u1 u2 q hu t t'
      subst q
      have q2 : u2 = w := L.2.2.1 u2 w hu hw (by rw [← t, hyx, hwx])
      subst q2
      by_cases z : cm (rU s) (rH s) u2 x
      · exact hc.mp (t'.mpr z) z
      · exact z (t'.mp (hc.mpr z))
    rcases (e3 y1 p1).mp h1.2 with q1 | b1
    · rcases (e3 y2 p2).mp h2.2 with q2 | b2
      · rw [q1, q2]
      · exact (no y1 y2 q1 ⟨p2, b2⟩ t1 t2).elim
    · rcases (e3 y2 p2).mp h2.2 with q2 | b2
      · exact (no y2 y1 q2 ⟨p1, b1⟩ t1.symm t2.symm).elim
      · exact L.2.2.1 y1 y2 ⟨p1, b1⟩ ⟨p2, b2⟩ t1
theorem FL.join (W : SH s) (L : FL s) (e : same3 s s') {x w : Nat} (x0 : 0 < x) (hx : rP s x) (gx : ¬ rH s x = true) (e2 : ∀ v, rP s v → v ≠ x → s' (13 * v + 2) = s (13 * v + 2)) (e2x : s' (13 * x + 2) = 1) (e312 : G3 s') (hw : rR s w) (hwx : rT s w = rT s x) (e3 : ∀ u, rP s u → (s' (13 * u + 3) = 1 ↔ (u ≠ w ∧ s (13 * u + 3) = 1))) : FL s' := by
  have T := W.tr
  obtain ⟨r, hr⟩ := W.2.2.2
  have hu := (W.2.2.1 x x0 hx).2
  have hH : ∀ v, rP s v → v ≠ x → rH s' v = rH s v := fun v hv n => by unfold rH; rw [e2 v hv n]
  have gx' : rH s' x = true := by
    unfold rH
    rw [e2x]
    simp [x0]
  have hr' : ∀ v, rP s v → rH s' v = true → r (rU s v) < r v := fun v hv g => hr v (rH_pos g).1 hv
  have J := tp_join T (tr_any W s') hr' gx' hH gx (fun v hv g => by
    by_cases c : v = x
    · rw [c]; exact gx'
    · rw [hH v hv c]; exact g) hx
  have hT : ∀ v, rP s v → rT s' v = if rT s v = x then rT s (rU s x) else rT s v := fun v hv => by
    rw [rT_3 W e hv]
    exact (J _ v hv (Nat.le_refl _)).2
  have tx : rT s x = x := tp_no gx
  have tu : rT s (rU s x) ≠ x := fun q => by
    have h1 := (J _ (rU s x) hu (Nat.le_refl _)).1
    have h2 := hr x x0 hx
    have q : tp (rU s) (rH s) (rU s x) = x := q
    rw [q] at h1
    omega
  refine ⟨fun v p hv => ?_, fun v hv => ?_, fun y1 y2 h1 h2 t => ?_, e312, by rw [e 1 (by decide) (by decide) (by decide) (by decide)]; exact L.2.2.2.2⟩
  · have hv := (rP_3 e).mp hv
    by_cases c : v = x
    · rw [c]
      exact Or.inr e2x
    · rw [e2 v hv c]
      exact L.1 v p hv
  · have hv := (rP_3 e).mp hv
    by_cases t : rT s v = x
    · obtain ⟨r2, a, b⟩ := L.2.1 (rU s x) hu
      have n : r2 ≠ w := fun q => tu (by rw [← b, q, hwx, tx])
      refine ⟨r2, ⟨(rP_3 e).mpr a.1, (e3 r2 a.1).mpr ⟨n, a.2⟩⟩, ?_⟩
      rw [hT r2 a.1, hT v hv, if_pos t, if_neg (by rw [b]; exact tu)]
      exact b
    · obtain ⟨r2, a, b⟩ := L.2.1 v hv
      have n : r2 ≠ w := fun q => t (by rw [← b, q, hwx, tx])
      refine ⟨r2, ⟨(rP_3 e).mpr a.1, (e3 r2 a.1).mpr ⟨n, a.2⟩⟩, ?_⟩
      rw [hT r2 a.1, hT v hv, if_neg t, if_neg (by rw [b]; exact t)]
      exact b
  · have p1 := (rP_3 e).mp h1.1
    have p2 := (rP_3 e).mp h2.1
    obtain ⟨n1, b1⟩ := (e3 y1 p1).mp h1.2
    obtain ⟨n2, b2⟩ := (e3 y2 p2).mp h2.2
    have k1 : rT s y1 ≠ x := fun q => n1 (L.2.2.1 y1 w ⟨p1, b1⟩ hw (by rw [q, hwx, tx]))
    have k2 : rT s y2 ≠ x := fun q => n2 (L.2.2.1 y2 w ⟨p2, b2⟩ hw (by rw [q, hwx, tx]))
    rw [hT y1 p1, hT y2 p2, if_neg k1, if_neg k2] at t
    exact L.2.2.1 y1 y2 ⟨p1, b1⟩ ⟨p2, b2⟩ t
end FLG
/-! PURE PART. acts in general; set and root -/
section RTS
variable {M N F P : CS} {Q : HS} {E O S : CS} {n : Nat}
theorem OKS.toB {N : CS} {s : Nat → Int32} {n : Nat} (h : OKS N s n) : OKB N s (50 * n) := h
theorem OKB.fin {N : CS} {s : Nat → Int32} {n B : Nat} (h : OKB N s B) (hB : B ≤ 50 * (n + 1)) : OKS N s (n + 1) := h.mono hB
/-! settings -/
theorem FL.glob {s s' : Nat → Int32} (W : SH s) (L : FL s) (e : ∀ j, j < 312 → s' j = s j) (e312 : G3 s') : FL s' := by
  obtain ⟨r, hr, -⟩ := L.2.1 0 W.p0
  refine FL.move W L (fun j a _ _ _ => e j a) (fun v hv => e _ (by have := hv.1; omega)) e312 hr hr.1 rfl (fun y hy => ?_)
  rw [e _ (by have := hy.1; omega)]
  by_cases c : y = r
  · subst c
    exact ⟨fun _ => Or.inl rfl, fun _ => hr.2⟩
  · exact ⟨fun z => Or.inr ⟨c, z⟩, fun z => z.elim (fun k => absurd k c) (fun k => k.2)⟩
theorem OKB.glob {N N' : CS} {s s' : Nat → Int32} {B : Nat} (h : OKB N s B) (e : ∀ j, j < 312 → s' j = s j) (e312 : G3 s') (n0 : ∀ j, j < 3 → N'.1 j = N.1 j) (m : N'.2 = N.2) (g : ∀ j, 7 ≤ j → j ≤ 12 → N'.1 j = s' (305 + j)) : OKB N' s' B := by
  obtain ⟨W, L, R, b⟩ := h
  refine OKB.flags ⟨W, L, R, b⟩ (fun j a _ _ _ => e j a) (FL.glob W L e e312) (n0 0 (by decide)) (fun i hi => ?_) (fun i hi => ?_) (by rw [m]) (by rw [m]) (by rw [m]) (fun v hv => ?_) g
  · rw [n0 1 (by decide), k_i R hi]
    constructor
    · rintro ⟨p, q⟩
      have := p.1
      exact ⟨p, by unfold rH at *; rw [e _ (by omega)]; exact q⟩
    · rintro ⟨p, q⟩
      have := p.1
      exact ⟨p, by unfold rH at *; rw [e _ (by omega)] at q; exact q⟩
  · rw [n0 2 (by decide), t_i R hi]
    constructor
    · rintro ⟨p, q⟩
      have := p.1
      exact ⟨p, by rw [e _ (by omega)]; exact q⟩
    · rintro ⟨p, q⟩
      have := p.1
      exact ⟨p, by rw [e _ (by omega)] at q; exact q⟩
  · rw [m, e _ (by have := hv.1; omega)]
    exact ⟨(R.2.2.2.2.2.1 v hv).1, b v hv⟩
end RTS
/-! PURE PART. root, join -/
section MVS
variable {N : CS} {s : Nat → Int32} {B : Nat}
def mv (s : Nat → Int32) (w x : Nat) : Nat → Int32 := upd (upd s (13 * w + 3) 0) (13 * x + 3) 1
theorem mv_o (s : Nat → Int32) (w x : Nat) {j : Nat} (h : j % 13 ≠ 3) : mv s w x j = s j := by
  unfold mv
  rw [pk_un (by omega), pk_un (by omega)]
theorem mv_g (s : Nat → Int32) {w x : Nat} (hw : w < 24) (hx : x < 24) {j : Nat} (h : 312 ≤ j) : mv s w x j = s j := by
  unfold mv
  rw [pk_un (by omega), pk_un (by omega)]
theorem mv_3 (s : Nat → Int32) (w x y : Nat) : (mv s w x (13 * y + 3) = 1 ↔ (y = x ∨ (y ≠ w ∧ s (13 * y + 3) = 1))) := by
  unfold mv
  by_cases c : y = x
  · subst c
    rw [pk_us]
    exact ⟨fun _ => Or.inl rfl, fun _ => rfl⟩
  · rw [pk_un (by omega)]
    by_cases d : y = w
    · subst d
      rw [pk_us]
      exact ⟨fun z => absurd z (by decide), fun z => z.elim (fun k => absurd k c) (fun k => absurd rfl k.1)⟩
    · rw [pk_un (by omega)]
      exact ⟨fun z => Or.inr ⟨d, z⟩, fun z => z.elim (fun k => absurd k c) (fun k => k.2)⟩
theorem mv_e (s : Nat → Int32) (w x : Nat) : same3 s (mv s w x) := fun _ _ _ c _ => mv_o s w x c
theorem rU_mv (s : Nat → Int32) (w x : Nat) : rU (mv s w x) = rU s := funext fun v => by unfold rU; rw [mv_o s w x (by omega)]
theorem rH_mv (s : Nat → Int32) (w x : Nat) : rH (mv s w x) = rH s := funext fun v => by unfold rH; rw [mv_o s w x (by omega)]
theorem rT_mv (s : Nat → Int32) (w x v : Nat) : rT (mv s w x) v = rT s v := by
  show tp (rU (mv s w x)) (rH (mv s w x)) v = _
  rw [rU_mv, rH_mv]
theorem yD_mv (s : Nat → Int32) (w x u v : Nat) : yD (mv s w x) u v = yD s u v := by
  show DD (rU (mv s w x)) (rH (mv s w x)) u v = _
  rw [rU_mv, rH_mv]
theorem G3.mod {s s' : Nat → Int32} (h : G3 s) (e1 : s' 312 = s 312) (e2 : s' 313 = s 313) : G3 s' := by
  unfold G3 at *
  rw [e1, e2]
  exact h
theorem OKB.moved (h : OKB N s B) {w x : Nat} (hw : rR s w) (hx : rP s x) (t : rT s w = rT s x) : OKB (f_X5_moveRoot N (nI w) (nI x)) (mv s w x) B := by
  obtain ⟨W, L, R, b⟩ := h
  have w24 := hw.1.1
  have x24 := hx.1
  refine OKB.flags (N' := f_X5_moveRoot N (nI w) (nI x)) (B' := B) ⟨W, L, R, b⟩ (mv_e s w x) (FL.move W L (mv_e s w x) (fun v hv => mv_o s w x (by omega)) (L.2.2.2.1.mod (mv_o s w x (by decide)) (mv_o s w x (by decide))) hw hx t (fun y _ => mv_3 s w x y)) rfl (fun i hi => ?_) (fun i hi => ?_) rfl rfl rfl (fun v hv => ?_) (fun j a c => ?_)
  · show bt (N.1 1) i = true ↔ _
    rw [k_i R hi, rH_mv]
  · show bt ((N.1 2 &&& (f_X4_of (nI w) ^^^ (-1))) ||| f_X4_of (nI x)) i = true ↔ _
    rw [bor_i x24 hi, band_i w24 hi, t_i R hi, mv_3]
    constructor
    · rintro (⟨p, q⟩ | q)
      · exact ⟨p.1, Or.inr ⟨q, p.2⟩⟩
      · exact ⟨q ▸ hx, Or.inl q⟩
    · rintro ⟨p, q | ⟨q1, q2⟩⟩
      · exact Or.inr q
      · exact Or.inl ⟨⟨p, q2⟩, q1⟩
  · rw [mv_o s w x (by omega)]
    exact ⟨(R.2.2.2.2.2.1 v hv).1, b v hv⟩
  · rw [mv_g s w24 x24 (by omega)]
    refine Eq.trans ?_ (R.2.2.2.2.2.2 j a c)
    show upd (upd N.1 2 _) 2 _ j = _
    rw [pk_un (by omega), pk_un (by omega)]
/-! join -/
def jn (s : Nat → Int32) (w x : Nat) : Nat → Int32 := upd (upd s (13 * w + 3) 0) (13 * x + 2) 1
theorem jn_o (s : Nat → Int32) (w x : Nat) {j : Nat} (h : j % 13 ≠ 3) (h2 : j % 13 ≠ 2) : jn s w x j = s j := by
  unfold jn
  rw [pk_un (by omega), pk_un (by omega)]
theorem jn_g (s : Nat → Int32) {w x : Nat} (hw : w < 24) (hx : x < 24) {j : Nat} (h : 312 ≤ j) : jn s w x j = s j := by
  unfold jn
  rw [pk_un (by omega), pk_un (by omega)]
theorem jn_e (s : Nat → Int32) (w x : Nat) : same3 s (jn s w x) := fun _ _ b c _ => jn_o s w x c b
theorem jn_3 (s : Nat → Int32) (w x y : Nat) : (jn s w x (13 * y + 3) = 1 ↔ (y ≠ w ∧ s (13 * y + 3) = 1)) := by
  unfold jn
  rw [pk_un (by omega)]
  by_cases d : y = w
  · subst d
    rw [pk_us]
    exact ⟨fun z => absurd z (by decide), fun k => absurd rfl k.1⟩
  · rw [pk_un (by omega)]
    exact ⟨fun z => ⟨d, z⟩, fun k => k.2⟩
theorem jn_2 (s : Nat → Int32) (w x : Nat) : jn s w x (13 * x + 2) = 1 := pk_us
theorem jn_2n (s : Nat → Int32) (w x : Nat) {v : Nat} (h : v ≠ x) : jn s w x (13 * v + 2) = s (13 * v + 2) := by
  unfold jn
  rw [pk_un (by omega), pk_un (by omega)]
theorem OKB.joined (h : OKB N s B) {w x : Nat} (x0 : 0 < x) (gx : ¬ rH s x = true) (hw : rR s w) (hx : rP s x) (t : rT s w = rT s x) : OKB (f_X5_keepDifference (f_X5_dropRoot N (nI w)) (nI x)) (jn s w x) B := by
  obtain ⟨W, L, R, b⟩ := h
  have w24 := hw.1.1
  have x24 := hx.1
  refine OKB.flags (N' := f_X5_keepDifference (f_X5_dropRoot N (nI w)) (nI x)) (B' := B) ⟨W, L, R, b⟩ (jn_e s w x) (FL.join W L (jn_e s w x) x0 hx gx (fun v _ c => jn_2n s w x c) (jn_2 s w x) (L.2.2.2.1.mod (jn_o s w x (by decide) (by decide)) (jn_o s w x (by decide) (by decide))) hw t (fun y _ => jn_3 s w x y)) rfl (fun i hi => ?_) (fun i hi => ?_) rfl rfl rfl (fun v hv => ?_) (fun j a c => ?_)
  · show bt (N.1 1 ||| f_X4_of (nI x)) i = true ↔ _
    rw [bor_i x24 hi, k_i R hi]
    by_cases c : i = x
    · subst c
      refine ⟨fun _ => ⟨hx, ?_⟩, fun _ => Or.inr rfl⟩
      unfold rH
      rw [jn_2]
      simp [x0]
    · have e : rH (jn s w x) i = rH s i := by unfold rH; rw [jn_2n s w x c]
      rw [e]
      exact ⟨fun z => z.elim id (fun k => absurd k c), Or.inl⟩
  · show bt (N.1 2 &&& (f_X4_of (nI w) ^^^ (-1))) i = true ↔ _
    rw [band_i w24 hi, t_i R hi, jn_3]
    exact ⟨fun z => ⟨z.1.1, z.2, z.1.2⟩, fun z => ⟨⟨z.1, z.2.2⟩, z.2.1⟩⟩
  · rw [jn_o s w x (by omega) (by omega)]
    exact ⟨(R.2.2.2.2.2.1 v hv).1, b v hv⟩
  · rw [jn_g s w24 x24 (by omega)]
    refine Eq.trans ?_ (R.2.2.2.2.2.2 j a c)
    show upd (upd N.1 2 _) 1 _ j = _
    rw [pk_un (by omega), pk_un (by omega)]
end MVS
/-! PURE PART. acts that are tried; cut -/
/-! cut -/
section CUT
variable {N : CS} {s : Nat → Int32} {B : Nat}
def ct0 (s : Nat → Int32) (x : Nat) : Nat → Int32 := upd s (13 * x + 2) 0
def ct (s : Nat → Int32) (x y : Nat) : Nat → Int32 := upd (ct0 s x) (13 * y + 3) 1
theorem ct0_o (s : Nat → Int32) (x : Nat) {j : Nat} (h : j ≠ 13 * x + 2) : ct0 s x j = s j := pk_un h
theorem ct0_2 (s : Nat → Int32) (x : Nat) : ct0 s x (13 * x + 2) = 0 := pk_us
theorem ct0_e (s : Nat → Int32) (x : Nat) : same3 s (ct0 s x) := fun _ _ b _ _ => ct0_o s x (by omega)
theorem ct_o (s : Nat → Int32) (x y : Nat) {j : Nat} (h : j ≠ 13 * y + 3) : ct s x y j = ct0 s x j := pk_un h
theorem ct_e (s : Nat → Int32) (x y : Nat) : same3 s (ct s x y) := fun _ _ b c _ => (ct_o s x y (by omega)).trans (ct0_o s x (by omega))
theorem ct_3 (s : Nat → Int32) (x y u : Nat) : (ct s x y (13 * u + 3) = 1 ↔ (u = y ∨ s (13 * u + 3) = 1)) := by
  by_cases c : u = y
  · subst c
    exact ⟨fun _ => Or.inl rfl, fun _ => pk_us⟩
  · rw [ct_o s x y (by omega), ct0_o s x (by omega)]
    exact ⟨Or.inr, fun z => z.elim (fun k => absurd k c) id⟩
theorem rT_ct {s' : Nat → Int32} (W : SH s) (e : same3 s s') {x : Nat} (gx : rH s x = true) (e2 : ∀ v, rP s v → v ≠ x → s' (13 * v + 2) = s (13 * v + 2)) (e2x : s' (13 * x + 2) = 0) {v : Nat} (hv : rP s v) : rT s' v = if cm (rU s) (rH s) v x then x else rT s v := by
  have hH : ∀ v, rP s v → v ≠ x → rH s' v = rH s v := fun v hv n => by unfold rH; rw [e2 v hv n]
  have gx' : rH s' x = false := by
    unfold rH
    rw [e2x]
    simp
  rw [rT_3 W e hv]
  exact tp_cut W.tr (tr_any W s') gx' hH gx _ v hv (Nat.le_refl _)
theorem rR_ct0 {x u : Nat} : rR (ct0 s x) u ↔ rR s u := by
  unfold rR
  rw [rP_3 (ct0_e s x), ct0_o s x (by omega)]
theorem cut_roots (W : SH s) (L : FL s) {x w : Nat} (hx : rP s x) (gx : rH s x = true) (hw : rR s w) (hwx : rT s w = rT s x) : (cm (rU s) (rH s) w x → rT (ct0 s x) w = rT (ct0 s x) x ∧ ∀ w', rR (ct0 s x) w' → rT (ct0 s x) w' = rT (ct0 s x) x → w' = w) ∧ (¬ cm (rU s) (rH s) w x → ∀ w', rR (ct0 s x) w' → ¬ rT (ct0 s x) w' = rT (ct0 s x) x) := by
  have hT : ∀ v, rP s v → rT (ct0 s x) v = if cm (rU s) (rH s) v x then x else rT s v := fun v hv => rT_ct W (ct0_e s x) gx (fun v _ c => ct0_o s x (by omega)) (ct0_2 s x) hv
  have hTx : rT (ct0 s x) x = x := by rw [hT x hx, if_pos (cm_refl x)]
  have key : ∀ w', rR (ct0 s x) w' → rT (ct0 s x) w' = rT (ct0 s x) x → w' = w ∧ cm (rU s) (rH s) w' x := by
    intro w' h' t
    have h' := rR_ct0.mp h'
    rw [hTx, hT w' h'.1] at t
    by_cases c : cm (rU s) (rH s) w' x
    · exact ⟨L.2.2.1 w' w h' hw (by rw [hwx]; exact (cm_tp' W.tr h'.1 c).symm), c⟩
    · rw [if_neg c] at t
      exact absurd (t ▸ cm_top W.tr h'.1) c
  refine ⟨fun c => ⟨?_, fun w' a b => (key w' a b).1⟩, fun c w' a b => ?_⟩
  · rw [hTx, hT w hw.1, if_pos c]
  · obtain ⟨k1, k2⟩ := key w' a b
    exact c (k1 ▸ k2)
theorem OKB.cutted (h : OKB N s B) {x w y : Nat} (hx : rP s x) (gx : rH s x = true) (hw : rR s w) (hwx : rT s w = rT s x) (hy : rP s y) (hyx : rT s y = rT s x) (hc : cm (rU s) (rH s) y x ↔ ¬ cm (rU s) (rH s) w x) : OKB (f_X5_addRoot (f_X5_cutDifference N (nI x)) (nI y)) (ct s x y) B := by
  obtain ⟨W, L, R, b⟩ := h
  have y24 := hy.1
  have x24 := hx.1
  refine OKB.flags (N' := f_X5_addRoot (f_X5_cutDifference N (nI x)) (nI y)) (B' := B) ⟨W, L, R, b⟩ (ct_e s x y) (FL.cut W L (ct_e s x y) hx gx (fun v _ c => (ct_o s x y (by omega)).trans (ct0_o s x (by omega))) ((ct_o s x y (by omega)).trans (ct0_2 s x)) (L.2.2.2.1.mod ((ct_o s x y (by omega)).trans (ct0_o s x (by omega))) ((ct_o s x y (by omega)).trans (ct0_o s x (by omega)))) hw hwx hy hyx hc (fun u _ => ct_3 s x y u)) rfl (fun i hi => ?_) (fun i hi => ?_) rfl rfl rfl (fun v hv => ?_) (fun j a c => ?_)
  · show bt (N.1 1 &&& (f_X4_of (nI x) ^^^ (-1))) i = true ↔ _
    rw [band_i x24 hi, k_i R hi]
    by_cases c : i = x
    · subst c
      refine ⟨fun z => absurd rfl z.2, fun z => ?_⟩
      have := (rH_pos z.2).2
      rw [ct_o s i y (by omega), ct0_2] at this
      exact absurd this (by decide)
    · have e : rH (ct s x y) i = rH s i := by unfold rH; rw [ct_o s x y (by omega), ct0_o s x (by omega)]
      rw [e]
      exact ⟨fun z => z.1, fun z => ⟨z, c⟩⟩
  · show bt (N.1 2 ||| f_X4_of (nI y)) i = true ↔ _
    rw [bor_i y24 hi, t_i R hi, ct_3]
    constructor
    · rintro (z | z)
      · exact ⟨z.1, Or.inr z.2⟩
      · exact ⟨z ▸ hy, Or.inl z⟩
    · rintro ⟨p, z | z⟩
      · exact Or.inr z
      · exact Or.inl ⟨p, z⟩
  · rw [ct_o s x y (by omega), ct0_o s x (by omega)]
    exact ⟨(R.2.2.2.2.2.1 v hv).1, b v hv⟩
  · rw [ct_o s x y (by omega), ct0_o s x (by omega)]
    refine Eq.trans ?_ (R.2.2.2.2.2.2 j a c)
    show upd (upd N.1 1 _) 2 _ j = _
    rw [pk_un (by omega), pk_un (by omega)]
theorem RS.cutd (W : SH s) (R : RS N s) {x : Nat} (hx : rP s x) : RS (f_X5_cutDifference N (nI x)) (ct0 s x) := by
  have x24 := hx.1
  refine RS.flags (N' := f_X5_cutDifference N (nI x)) R W (ct0_e s x) rfl (fun i hi => ?_) (fun i hi => ?_) rfl rfl rfl (fun v hv => ?_) (fun j a c => ?_)
  · show bt (N.1 1 &&& (f_X4_of (nI x) ^^^ (-1))) i = true ↔ _
    rw [band_i x24 hi, k_i R hi]
    by_cases c : i = x
    · subst c
      refine ⟨fun z => absurd rfl z.2, fun z => ?_⟩
      have := (rH_pos z.2).2
      rw [ct0_2] at this
      exact absurd this (by decide)
    · have e : rH (ct0 s x) i = rH s i := by unfold rH; rw [ct0_o s x (by omega)]
      rw [e]
      exact ⟨fun z => z.1, fun z => ⟨z, c⟩⟩
  · show bt (N.1 2) i = true ↔ _
    rw [t_i R hi, ct0_o s x (by omega)]
    exact Iff.rfl
  · rw [ct0_o s x (by omega)]
    exact (R.2.2.2.2.2.1 v hv).1
  · rw [ct0_o s x (by omega)]
    refine Eq.trans ?_ (R.2.2.2.2.2.2 j a c)
    show upd N.1 1 _ j = _
    rw [pk_un (by omega)]
theorem cm_src (W : SH s) {v : Nat} (hv : rP s v) (g : rH s v = true) : ¬ cm (rU s) (rH s) (rU s v) v := fun c => by
  have h1 := c.1
  have h2 := ht_hg W.tr hv g
  omega
end CUT
