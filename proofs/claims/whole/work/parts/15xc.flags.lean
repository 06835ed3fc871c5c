/-! PURE PART. flags of a row change: roots, differences kept, askings -/
def BNb (B : Nat) (s : Nat → Int32) : Prop := ∀ v, rP s v → ∃ k, k ≤ B ∧ s (13 * v + 4) = nI k
def OKB (N : CS) (s : Nat → Int32) (B : Nat) : Prop := SH s ∧ FL s ∧ RS N s ∧ BNb B s
def same3 (s s' : Nat → Int32) : Prop := ∀ j, j < 312 → j % 13 ≠ 2 → j % 13 ≠ 3 → j % 13 ≠ 4 → s' j = s j
section FLG
variable {N N' : CS} {s s' : Nat → Int32} {B : Nat}
theorem OKB.toS (h : OKB N s B) : OKS N s B := ⟨h.1, h.2.1, h.2.2.1, fun v hv => by
  obtain ⟨k, a, b⟩ := h.2.2.2 v hv
  exact ⟨k, by omega, b⟩⟩
theorem OKB.mono (h : OKB N s B) {B' : Nat} (hb : B ≤ B') : OKB N s B' := ⟨h.1, h.2.1, h.2.2.1, fun v hv => by
  obtain ⟨k, a, b⟩ := h.2.2.2 v hv
  exact ⟨k, by omega, b⟩⟩
theorem p_i (R : RS N s) {i : Nat} (hi : i < 32) : bt (N.1 0) i = true ↔ rP s i := by
  rw [R.1 i hi]
  exact pB_iff
theorem k_i (R : RS N s) {i : Nat} (hi : i < 32) : bt (N.1 1) i = true ↔ rP s i ∧ rH s i = true := by
  rw [R.2.1 i hi, Bool.and_eq_true, pB_iff]
theorem t_i (R : RS N s) {i : Nat} (hi : i < 32) : bt (N.1 2) i = true ↔ rR s i := by
  rw [R.2.2.1 i hi]
  exact tB_iff
theorem bor_i {x : Int32} {v i : Nat} (hv : v < 24) (hi : i < 32) : bt (x ||| f_X4_of (nI v)) i = true ↔ (bt x i = true ∨ i = v) := by
  rw [bt_or, bt_of (by omega) hi, Bool.or_eq_true, decide_eq_true_iff]
theorem band_i {x : Int32} {v i : Nat} (hv : v < 24) (hi : i < 32) : bt (x &&& (f_X4_of (nI v) ^^^ (-1))) i = true ↔ (bt x i = true ∧ i ≠ v) := by
  rw [bt_and, bt_not hi, bt_of (by omega) hi, Bool.and_eq_true]
  simp
theorem rP_3 (e : same3 s s') {v : Nat} : rP s' v ↔ rP s v := by
  unfold rP
  constructor
  · rintro ⟨a, b⟩
    exact ⟨a, by rw [← e (13 * v) (by omega) (by omega) (by omega) (by omega)]; exact b⟩
  · rintro ⟨a, b⟩
    exact ⟨a, by rw [e (13 * v) (by omega) (by omega) (by omega) (by omega)]; exact b⟩
theorem rU_3 (e : same3 s s') {v : Nat} (hv : v < 24) : rU s' v = rU s v := by
  unfold rU
  rw [e _ (by omega) (by omega) (by omega) (by omega)]
theorem un_3 (e : same3 s s') {v u c : Nat} (hv : v < 24) (hu : u < 24) (hc : c < 8) : un s' v u c = un s v u c := by
  unfold un
  rw [e (13 * v + (5 + c)) (by omega) (by omega) (by omega) (by omega), e (13 * u + (5 + c)) (by omega) (by omega) (by omega) (by omega)]
theorem SH.s3 (W : SH s) (e : same3 s s') : SH s' := by
  refine ⟨by rw [e 0 (by decide) (by decide) (by decide) (by decide)]; exact W.1, fun v hv => by rw [e _ (by omega) (by omega) (by omega) (by omega)]; exact W.2.1 v hv, fun v p hv => ?_, ?_⟩
  · have hv := (rP_3 e).mp hv
    have v24 := hv.1
    rw [rU_3 e hv.1, e (13 * v + 1) (by omega) (by omega) (by omega) (by omega)]
    exact ⟨(W.2.2.1 v p hv).1, (rP_3 e).mpr (W.2.2.1 v p hv).2⟩
  · obtain ⟨r, hr⟩ := W.2.2.2
    exact ⟨r, fun v p hv => by
      have hv := (rP_3 e).mp hv
      rw [rU_3 e hv.1]
      exact hr v p hv⟩
theorem RS.flags (R : RS N s) (W : SH s) (e : same3 s s') (n0 : N'.1 0 = N.1 0) (n1 : ∀ i, i < 32 → (bt (N'.1 1) i = true ↔ rP s i ∧ rH s' i = true)) (n2 : ∀ i, i < 32 → (bt (N'.1 2) i = true ↔ rP s i ∧ s' (13 * i + 3) = 1)) (m3 : N'.2 3 = N.2 3) (m4 : N'.2 4 = N.2 4) (m6 : N'.2 6 = N.2 6) (m5 : ∀ v, rP s v → N'.2 5 v = s' (13 * v + 4)) (g : ∀ j, 7 ≤ j → j ≤ 12 → N'.1 j = s' (305 + j)) : RS N' s' := by
  have pe : ∀ i, pB s' i = pB s i := fun i => Bool.eq_iff_iff.mpr (by rw [pB_iff, pB_iff]; exact rP_3 e)
  refine ⟨fun i hi => by rw [n0, pe]; exact R.1 i hi, fun i hi => ?_, fun i hi => ?_, by rw [m3, m4]; exact R.2.2.2.1, fun v p hv => ?_, fun v hv => ?_, g⟩
  · rw [Bool.eq_iff_iff, n1 i hi, Bool.and_eq_true, pB_iff, rP_3 e]
  · rw [Bool.eq_iff_iff, n2 i hi, tB_iff]
    unfold rR
    rw [rP_3 e]
  · have hv := (rP_3 e).mp hv
    have hu := (W.2.2.1 v p hv).2.1
    rw [m3, m4, rU_3 e hv.1]
    refine ⟨(R.2.2.2.2.1 v p hv).1, fun j hj => ?_⟩
    rw [(R.2.2.2.2.1 v p hv).2 j hj]
    by_cases c : j < 8
    · rw [un_3 e hv.1 hu c]
    · simp [c]
  · have hv := (rP_3 e).mp hv
    have v24 := hv.1
    refine ⟨m5 v hv, fun c hc => ?_⟩
    rw [m6, (R.2.2.2.2.2.1 v hv).2 c hc, e (13 * v + (5 + c)) (by omega) (by omega) (by omega) (by omega)]
theorem OKB.flags (h : OKB N s B) (e : same3 s s') (fl : FL s') (n0 : N'.1 0 = N.1 0) (n1 : ∀ i, i < 32 → (bt (N'.1 1) i = true ↔ rP s i ∧ rH s' i = true)) (n2 : ∀ i, i < 32 → (bt (N'.1 2) i = true ↔ rP s i ∧ s' (13 * i + 3) = 1)) (m3 : N'.2 3 = N.2 3) (m4 : N'.2 4 = N.2 4) (m6 : N'.2 6 = N.2 6) {B' : Nat} (m5 : ∀ v, rP s v → N'.2 5 v = s' (13 * v + 4) ∧ ∃ k, k ≤ B' ∧ s' (13 * v + 4) = nI k) (g : ∀ j, 7 ≤ j → j ≤ 12 → N'.1 j = s' (305 + j)) : OKB N' s' B' :=
  ⟨h.1.s3 e, fl, h.2.2.1.flags h.1 e n0 n1 n2 m3 m4 m6 (fun v hv => (m5 v hv).1) g, fun v hv => (m5 v ((rP_3 e).mp hv)).2⟩
theorem tr_any (W : SH s) (z : Nat → Int32) : TR (rP s) (rU s) (rH z) := ⟨fun v hv => hv.1, fun v hv g => (W.2.2.1 v (rH_pos g).1 hv).2, W.2.2.2.elim fun r hr => ⟨r, fun v hv g => hr v (rH_pos g).1 hv⟩⟩
theorem rT_3 (W : SH s) (e : same3 s s') {v : Nat} (hv : rP s v) : rT s' v = tp (rU s) (rH s') v := (tree_congr (tr_any W s') (fun _ _ => rfl) (fun v hv _ => rU_3 e hv.1) _ v hv (Nat.le_refl _)).2.1
theorem FL.move (W : SH s) (L : FL s) (e : same3 s s') (e2 : ∀ v, rP s v → s' (13 * v + 2) = s (13 * v + 2)) (e312 : G3 s') {w x : Nat} (hw : rR s w) (hx : rP s x) (hwx : rT s w = rT s x) (e3 : ∀ y, rP s y → (s' (13 * y + 3) = 1 ↔ (y = x ∨ (y ≠ w ∧ s (13 * y + 3) = 1)))) : FL s' := by
  have hH : ∀ v, rP s v → rH s' v = rH s v := fun v hv => by unfold rH; rw [e2 v hv]
  have hT : ∀ v, rP s v → rT s' v = rT s v := fun v hv => (tree_congr W.tr hH (fun v hv _ => rU_3 e hv.1) _ v hv (Nat.le_refl _)).2.1
  refine ⟨fun v p hv => ?_, fun v hv => ?_, fun y1 y2 h1 h2 t => ?_, e312, by rw [e 1 (by decide) (by decide) (by decide) (by decide)]; exact L.2.2.2.2⟩
  · have hv := (rP_3 e).mp hv
    rw [e2 v hv]
    exact L.1 v p hv
  · have hv := (rP_3 e).mp hv
    obtain ⟨r, a, b⟩ := L.2.1 v hv
    by_cases c : r = w
    · refine ⟨x, ⟨(rP_3 e).mpr hx, (e3 x hx).mpr (Or.inl rfl)⟩, ?_⟩
      rw [hT x hx, hT v hv, ← hwx, ← c]
      exact b
    · refine ⟨r, ⟨(rP_3 e).mpr a.1, (e3 r a.1).mpr (Or.inr ⟨c, a.2⟩)⟩, ?_⟩
      rw [hT r a.1, hT v hv]
      exact b
  · have p1 := (rP_3 e).mp h1.1
    have p2 := (rP_3 e).mp h2.1
    rw [hT y1 p1, hT y2 p2] at t
    rcases (e3 y1 p1).mp h1.2 with q1 | ⟨a1, b1⟩
    · rcases (e3 y2 p2).mp h2.2 with q2 | ⟨a2, b2⟩
      · rw [q1, q2]
      · exact absurd (L.2.2.1 y2 w ⟨p2, b2⟩ hw (by rw [← t, q1, hwx])) a2
    · rcases (e3 y2 p2).mp h2.2 with q2 | ⟨a2, b2⟩
      · exact absurd (L.2.2.1 y1 w ⟨p1, b1⟩ hw (by rw [t, q2, hwx])) a1
      · exact L.2.2.1 y1 y2 ⟨p1, b1⟩ ⟨p2, b2⟩ t
theorem FL.cut (W : SH s) (L : FL s) (e : same3 s s') {x w y : Nat} (hx : rP s x) (gx : rH s x = true) (e2 : ∀ v, rP s v → v ≠ x → s' (13 * v + 2) = s (13 * v + 2)) (e2x : s' (13 * x + 2) = 0) (e312 : G3 s') (hw : rR s w) (hwx : rT s w = rT s x) (hy : rP s y) (hyx : rT s y = rT s x) (hc : cm (rU s) (rH s) y x ↔ ¬ cm (rU s) (rH s) w x) (e3 : ∀ u, rP s u → (s' (13 * u + 3) = 1 ↔ (u = y ∨ s (13 * u + 3) = 1))) : FL s' := by
  have T := W.tr
  have hH : ∀ v, rP s v → v ≠ x → rH s' v = rH s v := fun v hv n => by unfold rH; rw [e2 v hv n]
  have gx' : rH s' x = false := by
    unfold rH
    rw [e2x]
    simp
  have hT : ∀ v, rP s v → rT s' v = if cm (rU s) (rH s) v x then x else rT s v := fun v hv => by
    rw [rT_3 W e hv]
    exact tp_cut T (tr_any W s') gx' hH gx _ v hv (Nat.le_refl _)
  have ct : ∀ v, rP s v → cm (rU s) (rH s) v x → rT s v = rT s x := fun v hv c => (cm_tp' T hv c).symm
  have nx : ∀ v, rP s v → ¬ cm (rU s) (rH s) v x → rT s v ≠ x := fun v hv c q => c (q ▸ cm_top T hv)
  refine ⟨fun v p hv => ?_, fun v hv => ?_, fun y1 y2 h1 h2 t => ?_, e312, by rw [e 1 (by decide) (by decide) (by decide) (by decide)]; exact L.2.2.2.2⟩
  · have hv := (rP_3 e).mp hv
    by_cases c : v = x
    · rw [c]
      exact Or.inl e2x
    · rw [e2 v hv c]
      exact L.1 v p hv
  · have hv := (rP_3 e).mp hv
    by_cases t : rT s v = rT s x
    · by_cases c : cm (rU s) (rH s) v x ↔ cm (rU s) (rH s) w x
      · refine ⟨w, ⟨(rP_3 e).mpr hw.1, (e3 w hw.1).mpr (Or.inr hw.2)⟩, ?_⟩
        rw [hT w hw.1, hT v hv]
        by_cases d : cm (rU s) (rH s) v x
        · rw [if_pos d, if_pos (c.mp d)]
        · rw [if_neg d, if_neg (fun z => d (c.mpr z)), hwx, t]
      · refine ⟨y, ⟨(rP_3 e).mpr hy, (e3 y hy).mpr (Or.inl rfl)⟩, ?_⟩
        rw [hT y hy, hT v hv]
        by_cases d : cm (rU s) (rH s) v x
        · have z : ¬ cm (rU s) (rH s) w x := fun z => c ⟨fun _ => z, fun _ => d⟩
          rw [if_pos d, if_pos (hc.mpr z)]
        · have z : cm (rU s) (rH s) w x := Classical.byContradiction (fun z => c ⟨fun q => absurd q d, fun q => absurd q z⟩)
          rw [if_neg d, if_neg (fun q => hc.mp q z), hyx, t]
    · obtain ⟨r, a, b⟩ := L.2.1 v hv
      have n1 : ¬ cm (rU s) (rH s) v x := fun z => t (ct v hv z)
      have n2 : ¬ cm (rU s) (rH s) r x := fun z => t (b.symm.trans (ct r a.1 z))
      refine ⟨r, ⟨(rP_3 e).mpr a.1, (e3 r a.1).mpr (Or.inr a.2)⟩, ?_⟩
      rw [hT r a.1, hT v hv, if_neg n1, if_neg n2]
      exact b
  · have p1 := (rP_3 e).mp h1.1
    have p2 := (rP_3 e).mp h2.1
    have key : rT s y1 = rT s y2 ∧ (cm (rU s) (rH s) y1 x ↔ cm (rU s) (rH s) y2 x) := by
      rw [hT y1 p1, hT y2 p2] at t
      by_cases d1 : cm (rU s) (rH s) y1 x
      · by_cases d2 : cm (rU s) (rH s) y2 x
        · exact ⟨(ct y1 p1 d1).trans (ct y2 p2 d2).symm, ⟨fun _ => d2, fun _ => d1⟩⟩
        · rw [if_pos d1, if_neg d2] at t
          exact absurd t.symm (nx y2 p2 d2)
      · by_cases d2 : cm (rU s) (rH s) y2 x
        · rw [if_neg d1, if_pos d2] at t
          exact absurd t (nx y1 p1 d1)
        · rw [if_neg d1, if_neg d2] at t
          exact ⟨t, ⟨fun z => absurd z d1, fun z => absurd z d2⟩⟩
    obtain ⟨t1, t2⟩ := key
    have no : ∀ u1 u2, u1 = y → rR s u2 → rT s u1 = rT s u2 → (cm (rU s) (rH s) u1 x ↔ cm (rU s) (rH s) u2 x) → False := by
      intro u1 u2 q hu t t'
      subst q
      have q2 : u2 = w := L.2.2.1 u2 w hu hw (by rw [← t, hyx, hwx])
      subst q2
      by_cases z : cm (rU s) (rH s) u2 x
      · exact hc.mp (t'.mpr z) z
      · exact z (t'.mp (hc.mpr z))
    rcases (e3 y1 p1).mp h1.2 with q1 | b1
    · rcases (e3 y2 p2).mp h2.2 with q2 | b2
      · rw [q1, q2]
      · exact (no y1 y2 q1 ⟨p2, b2⟩ t1 t2).elim
    · rcases (e3 y2 p2).mp h2.2 with q2 | b2
      · exact (no y2 y1 q2 ⟨p1, b1⟩ t1.symm t2.symm).elim
      · exact L.2.2.1 y1 y2 ⟨p1, b1⟩ ⟨p2, b2⟩ t1
theorem FL.join (W : SH s) (L : FL s) (e : same3 s s') {x w : Nat} (x0 : 0 < x) (hx : rP s x) (gx : ¬ rH s x = true) (e2 : ∀ v, rP s v → v ≠ x → s' (13 * v + 2) = s (13 * v + 2)) (e2x : s' (13 * x + 2) = 1) (e312 : G3 s') (hw : rR s w) (hwx : rT s w = rT s x) (e3 : ∀ u, rP s u → (s' (13 * u + 3) = 1 ↔ (u ≠ w ∧ s (13 * u + 3) = 1))) : FL s' := by
  have T := W.tr
  obtain ⟨r, hr⟩ := W.2.2.2
  have hu := (W.2.2.1 x x0 hx).2
  have hH : ∀ v, rP s v → v ≠ x → rH s' v = rH s v := fun v hv n => by unfold rH; rw [e2 v hv n]
  have gx' : rH s' x = true := by
    unfold rH
    rw [e2x]
    simp [x0]
  have hr' : ∀ v, rP s v → rH s' v = true → r (rU s v) < r v := fun v hv g => hr v (rH_pos g).1 hv
  have J := tp_join T (tr_any W s') hr' gx' hH gx (fun v hv g => by
    by_cases c : v = x
    · rw [c]; exact gx'
    · rw [hH v hv c]; exact g) hx
  have hT : ∀ v, rP s v → rT s' v = if rT s v = x then rT s (rU s x) else rT s v := fun v hv => by
    rw [rT_3 W e hv]
    exact (J _ v hv (Nat.le_refl _)).2
  have tx : rT s x = x := tp_no gx
  have tu : rT s (rU s x) ≠ x := fun q => by
    have h1 := (J _ (rU s x) hu (Nat.le_refl _)).1
    have h2 := hr x x0 hx
    have q : tp (rU s) (rH s) (rU s x) = x := q
    rw [q] at h1
    omega
  refine ⟨fun v p hv => ?_, fun v hv => ?_, fun y1 y2 h1 h2 t => ?_, e312, by rw [e 1 (by decide) (by decide) (by decide) (by decide)]; exact L.2.2.2.2⟩
  · have hv := (rP_3 e).mp hv
    by_cases c : v = x
    · rw [c]
      exact Or.inr e2x
    · rw [e2 v hv c]
      exact L.1 v p hv
  · have hv := (rP_3 e).mp hv
    by_cases t : rT s v = x
    · obtain ⟨r2, a, b⟩ := L.2.1 (rU s x) hu
      have n : r2 ≠ w := fun q => tu (by rw [← b, q, hwx, tx])
      refine ⟨r2, ⟨(rP_3 e).mpr a.1, (e3 r2 a.1).mpr ⟨n, a.2⟩⟩, ?_⟩
      rw [hT r2 a.1, hT v hv, if_pos t, if_neg (by rw [b]; exact tu)]
      exact b
    · obtain ⟨r2, a, b⟩ := L.2.1 v hv
      have n : r2 ≠ w := fun q => t (by rw [← b, q, hwx, tx])
      refine ⟨r2, ⟨(rP_3 e).mpr a.1, (e3 r2 a.1).mpr ⟨n, a.2⟩⟩, ?_⟩
      rw [hT r2 a.1, hT v hv, if_neg t, if_neg (by rw [b]; exact t)]
      exact b
  · have p1 := (rP_3 e).mp h1.1
    have p2 := (rP_3 e).mp h2.1
    obtain ⟨n1, b1⟩ := (e3 y1 p1).mp h1.2
    obtain ⟨n2, b2⟩ := (e3 y2 p2).mp h2.2
    have k1 : rT s y1 ≠ x := fun q => n1 (L.2.2.1 y1 w ⟨p1, b1⟩ hw (by rw [q, hwx, tx]))
    have k2 : rT s y2 ≠ x := fun q => n2 (L.2.2.1 y2 w ⟨p2, b2⟩ hw (by rw [q, hwx, tx]))
    rw [hT y1 p1, hT y2 p2, if_neg k1, if_neg k2] at t
    exact L.2.2.1 y1 y2 ⟨p1, b1⟩ ⟨p2, b2⟩ t
end FLG
