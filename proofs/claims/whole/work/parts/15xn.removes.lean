/-! PURE PART. remove -/
section RMV
variable {N : CS} {S : CS} {s : Nat → Int32} {B : Nat}
theorem rem_l {v : Nat} (hv : v < 24) : ∀ (m i : Nat) (Z : CS), i ≤ 13 → i + m = 14 → ∃ R : CS, R.1 = Z.1 ∧ (∀ j, j ≠ 0 → R.2 j = Z.2 j) ∧ (∀ j, (j < 13 * v + i ∨ 13 * v + 13 ≤ j) → R.2 0 j = Z.2 0 j) ∧ (∀ k, i ≤ k → k < 13 → R.2 0 (13 * v + k) = 0) ∧ l_X7_removes_69 (nI v) m Z i = (f_X7_versions R 0, R) ∧ ol_X7_removes_69 (nI v) m Z i := by
  intro m
  induction m with
  | zero => intro i Z h1 h2; omega
  | succ m ih =>
    intro i Z h1 h2
    rw [ol_X7_removes_69, l_X7_removes_69]
    simp only [bind1]
    by_cases q : i < 13
    · obtain ⟨R, r1, r2, r3, r4, r5, r6⟩ := ih (i + 1) (setF Z 0 (upd (Z.2 0) (13 * v + i) 0)) (by omega) (by omega)
      rw [if_pos q, cln hv q]
      refine ⟨R, r1, fun j hj => (r2 j hj).trans (setF_n Z _ hj), fun j hj => ?_, fun k hk hk2 => ?_, r5, fun _ => ⟨vi hv q, r6⟩, fun k => absurd q k⟩
      · rw [r3 j (by omega), setF_s, pk_un (by omega)]
      · by_cases z : k = i
        · subst z
          rw [r3 _ (by omega), setF_s, pk_us]
        · exact r4 k (by omega) hk2
    · rw [if_neg q]
      exact ⟨Z, rfl, fun _ _ => rfl, fun _ _ => rfl, fun k a b => by omega, rfl, fun k => absurd k q, fun _ => ⟨vers0.1, trivial⟩⟩
theorem remb (a : Int32) : ∀ (m i : Nat) (Z : CS), l_X7_removes_69b a m Z i = l_X7_removes_69 a m Z i ∧ ol_X7_removes_69b a m Z i = ol_X7_removes_69 a m Z i := by
  intro m
  induction m with
  | zero => intro i Z; exact ⟨rfl, rfl⟩
  | succ m ih =>
    intro i Z
    rw [l_X7_removes_69b, l_X7_removes_69, ol_X7_removes_69b, ol_X7_removes_69]
    simp only [bind1, (ih _ _).1, (ih _ _).2]
    exact ⟨rfl, rfl⟩
theorem remc (a : Int32) : ∀ (m i : Nat) (Z : CS), l_X7_removes_69c a m Z i = l_X7_removes_69 a m Z i ∧ ol_X7_removes_69c a m Z i = ol_X7_removes_69 a m Z i := by
  intro m
  induction m with
  | zero => intro i Z; exact ⟨rfl, rfl⟩
  | succ m ih =>
    intro i Z
    rw [l_X7_removes_69c, l_X7_removes_69, ol_X7_removes_69c, ol_X7_removes_69]
    simp only [bind1, (ih _ _).1, (ih _ _).2]
    exact ⟨rfl, rfl⟩
theorem leaf_n (R : RS N s) {v : Nat} (hv : v < 24) (W : SH s) : ∃ k, k ≤ 24 ∧ f_X5_madeOf N (nI v) = nI k ∧ (k = 0 → ∀ w, rP s w → 0 < w → rU s w ≠ v) := by
  have key : ∀ (m i c : Nat), 1 ≤ i → i ≤ 24 → i + m = 25 → ∃ k, c ≤ k ∧ k + i ≤ c + 24 ∧ l_X5_madeOf_4 N (nI v) m c i = nI k ∧ (k = c → ∀ w, i ≤ w → rP s w → rU s w ≠ v) := by
    intro m
    induction m with
    | zero => intro i c h1 h2; omega
    | succ m ih =>
      intro i c h1 h2 h3
      rw [l_X5_madeOf_4]
      by_cases q : i < 24
      · rw [if_pos q, has_n R q]
        by_cases p : pB s i = true
        · have hp := pB_iff.mp p
          have hu := (W.2.2.1 i (by omega) hp).2.1
          rw [if_pos p, src_s R hp (by omega)]
          have z : nI (rU s i) = nI v ↔ rU s i = v := nI_eq (by omega) (by omega)
          by_cases y : rU s i = v
          · rw [if_pos (z.mpr y)]
            obtain ⟨k, k1, k2, k3, k4⟩ := ih (i + 1) (c + 1) (by omega) (by omega) (by omega)
            exact ⟨k, by omega, by omega, k3, fun e => by omega⟩
          · rw [if_neg (fun x => y (z.mp x))]
            obtain ⟨k, k1, k2, k3, k4⟩ := ih (i + 1) c (by omega) (by omega) (by omega)
            refine ⟨k, k1, by omega, k3, fun e w hw hP => ?_⟩
            by_cases x : w = i
            · rw [x]; exact y
            · exact k4 e w (by omega) hP
        · rw [if_neg p]
          obtain ⟨k, k1, k2, k3, k4⟩ := ih (i + 1) c (by omega) (by omega) (by omega)
          refine ⟨k, k1, by omega, k3, fun e w hw hP => ?_⟩
          by_cases x : w = i
          · exact absurd (pB_iff.mpr (x ▸ hP)) p
          · exact k4 e w (by omega) hP
      · rw [if_neg q]
        exact ⟨c, Nat.le_refl _, by omega, rfl, fun _ w hw hP => by have := hP.1; omega⟩
  obtain ⟨k, k1, k2, k3, k4⟩ := key 24 1 0 (by decide) (by decide) (by decide)
  exact ⟨k, by omega, k3, fun e w hw h0 => k4 e w h0 hw⟩
theorem OKB.removed (h : OKB N s B) {v : Nat} (hv : rP s v) (v0 : 0 < v) (leaf : ∀ w, rP s w → 0 < w → rU s w ≠ v) {s' : Nat → Int32} {N1 : CS} (z : ∀ k, k < 13 → s' (13 * v + k) = 0) (e : ∀ j, j < 318 → (j < 13 * v ∨ 13 * v + 13 ≤ j) → j ≠ 13 * rU s v + 3 → s' j = s j) (e3 : (rR s v ∧ rH s v = true → s' (13 * rU s v + 3) = 1) ∧ (¬ (rR s v ∧ rH s v = true) → s' (13 * rU s v + 3) = s (13 * rU s v + 3))) (n1 : ∀ j, j ≠ 2 → N1.1 j = N.1 j) (n2 : N1.2 = N.2) (n3 : ∀ i, i < 32 → (bt (N1.1 2) i = true ↔ (rR s i ∨ ((rR s v ∧ rH s v = true) ∧ i = rU s v)))) : OKB (f_X5_drop N1 (nI v)) s' B := by
  obtain ⟨W, L, R, b⟩ := h
  have v24 := hv.1
  have hu := (W.2.2.1 v v0 hv).2
  have u24 := hu.1
  have uv : rU s v ≠ v := by
    obtain ⟨r, hr⟩ := W.2.2.2
    have := hr v v0 hv
    intro q
    rw [q] at this
    omega
  have pw : ∀ w, rP s' w ↔ (rP s w ∧ w ≠ v) := by
    intro w
    constructor
    · rintro ⟨p, q⟩
      by_cases c : w = v
      · subst c
        have := z 0 (by decide)
        rw [show 13 * w + 0 = 13 * w from rfl, q] at this
        exact absurd this (by decide)
      · exact ⟨⟨p, by rw [← e _ (by omega) (by omega) (by omega)]; exact q⟩, c⟩
    · rintro ⟨⟨p, q⟩, c⟩
      exact ⟨p, by rw [e _ (by omega) (by omega) (by omega)]; exact q⟩
  have eo : ∀ w k, rP s w → w ≠ v → k < 13 → (k ≠ 3 ∨ w ≠ rU s v) → s' (13 * w + k) = s (13 * w + k) := fun w k hw c hk d => by
    have := hw.1
    exact e _ (by omega) (by omega) (by omega)
  have hU : ∀ w, rP s' w → rU s w = rU s' w := fun w hw => by
    have hw := (pw w).mp hw
    unfold rU
    rw [eo w 1 hw.1 hw.2 (by decide) (by omega)]
  have hH : ∀ w, rP s' w → rH s w = rH s' w := fun w hw => by
    have hw := (pw w).mp hw
    unfold rH
    rw [eo w 2 hw.1 hw.2 (by decide) (by omega)]
  have W' : SH s' := by
    refine ⟨by rw [e 0 (by decide) (by omega) (by omega)]; exact W.1, fun w hw => ?_, fun w p hw => ?_, ?_⟩
    · by_cases c : w = v
      · subst c; exact Or.inl (z 0 (by decide))
      · rw [e _ (by omega) (by omega) (by omega)]; exact W.2.1 w hw
    · have q := (pw w).mp hw
      rw [← hU w hw, eo w 1 q.1 q.2 (by decide) (by omega)]
      exact ⟨(W.2.2.1 w p q.1).1, (pw _).mpr ⟨(W.2.2.1 w p q.1).2, leaf w q.1 p⟩⟩
    · obtain ⟨r, hr⟩ := W.2.2.2
      refine ⟨r, fun w p hw => ?_⟩
      rw [← hU w hw]
      exact hr w p ((pw w).mp hw).1
  have hT : ∀ w, rP s' w → rT s w = rT s' w := fun w hw => (tree_congr W'.tr hH (fun w hw _ => hU w hw) _ w hw (Nat.le_refl _)).2.1
  have pu : rP s' (rU s v) := (pw _).mpr ⟨hu, uv⟩
  have up : ∀ x, rP s x → x ≠ v → s (13 * x + 3) = 1 → s' (13 * x + 3) = 1 := fun x hx c d => by
    by_cases q : x = rU s v
    · by_cases f : rR s v ∧ rH s v = true
      · rw [q]; exact e3.1 f
      · rw [q, e3.2 f, ← q]; exact d
    · rw [eo x 3 hx c (by decide) (Or.inr q)]; exact d
  have rr : ∀ x, rR s' x ↔ ((rR s x ∨ ((rR s v ∧ rH s v = true) ∧ x = rU s v)) ∧ x ≠ v) := by
    intro x
    constructor
    · rintro ⟨p, q⟩
      obtain ⟨p1, p2⟩ := (pw x).mp p
      refine ⟨?_, p2⟩
      by_cases c : x = rU s v
      · by_cases f : rR s v ∧ rH s v = true
        · exact Or.inr ⟨f, c⟩
        · rw [c, e3.2 f, ← c] at q
          exact Or.inl ⟨p1, q⟩
      · rw [eo x 3 p1 p2 (by decide) (Or.inr c)] at q
        exact Or.inl ⟨p1, q⟩
    · rintro ⟨p | ⟨f, p⟩, q⟩
      · exact ⟨(pw x).mpr ⟨p.1, q⟩, up x p.1 q p.2⟩
      · rw [p]
        exact ⟨pu, e3.1 f⟩
  have notv : ∀ w, rP s w → w ≠ v → rT s w ≠ v := fun w hw c q => by
    have h1 := cm_top W.tr hw
    have q : tp (rU s) (rH s) w = v := q
    rw [q] at h1
    obtain ⟨x, x1, x2, x3, -⟩ := cm_child W.tr hw h1 (fun y => c y.symm)
    exact leaf x (cm_P W.tr hw x3) (rH_pos x1).1 x2
  have un0 : ∀ w x j, rP s' w → rP s' x → j < 8 → un s' w x j = un s w x j := fun w x j hw hx hj => by
    have hw := (pw w).mp hw
    have hx := (pw x).mp hx
    unfold un
    rw [eo w _ hw.1 hw.2 (by omega) (by omega), eo x _ hx.1 hx.2 (by omega) (by omega)]
  refine ⟨W', ⟨fun w p hw => ?_, fun w hw => ?_, fun y1 y2 h1 h2 t => ?_, L.2.2.2.1.mod (e 312 (by decide) (by omega) (by omega)) (e 313 (by decide) (by omega) (by omega)), by rw [e 1 (by decide) (by omega) (by omega)]; exact L.2.2.2.2⟩, ⟨fun i hi => ?_, fun i hi => ?_, fun i hi => ?_, ?_, fun w p hw => ?_, fun w hw => ?_, fun j a c => ?_⟩, fun w hw => ?_⟩
  · have q := (pw w).mp hw
    rw [eo w 2 q.1 q.2 (by decide) (by omega)]
    exact L.1 w p q.1
  · have q := (pw w).mp hw
    obtain ⟨x, x1, x2⟩ := L.2.1 w q.1
    by_cases c : x = v
    · have g : rH s v = true := by
        by_cases g : rH s v = true
        · exact g
        · have tv : rT s v = v := tp_no g
          rw [c, tv] at x2
          exact absurd x2.symm (notv w q.1 q.2)
      have f : rR s v ∧ rH s v = true := ⟨c ▸ x1, g⟩
      refine ⟨rU s v, ⟨pu, e3.1 f⟩, ?_⟩
      rw [← hT _ pu, ← hT w hw, ← x2, c]
      exact tp_up W.tr hv g
    · have x3 : rR s' x := (rr x).mpr ⟨Or.inl x1, c⟩
      exact ⟨x, x3, by rw [← hT x x3.1, ← hT w hw]; exact x2⟩
  · rw [← hT y1 h1.1, ← hT y2 h2.1] at t
    obtain ⟨a1, b1⟩ := (rr y1).mp h1
    obtain ⟨a2, b2⟩ := (rr y2).mp h2
    rcases a1 with a1 | ⟨f1, a1⟩
    · rcases a2 with a2 | ⟨f2, a2⟩
      · exact L.2.2.1 y1 y2 a1 a2 t
      · rw [a2] at t
        exact absurd (L.2.2.1 y1 v a1 f2.1 (t.trans (tp_up W.tr hv f2.2))) b1
    · rcases a2 with a2 | ⟨f2, a2⟩
      · rw [a1] at t
        exact absurd (L.2.2.1 y2 v a2 f1.1 (t.symm.trans (tp_up W.tr hv f1.2))) b2
      · rw [a1, a2]
  · show bt (N1.1 0 &&& (f_X4_of (nI v) ^^^ (-1))) i = _
    rw [Bool.eq_iff_iff, band_i v24 hi, n1 0 (by decide), p_i R hi, pB_iff]
    exact (pw i).symm
  · show bt (N1.1 1 &&& (f_X4_of (nI v) ^^^ (-1))) i = _
    rw [Bool.eq_iff_iff, band_i v24 hi, n1 1 (by decide), k_i R hi, Bool.and_eq_true, pB_iff]
    constructor
    · rintro ⟨⟨p, q⟩, c⟩
      have pp := (pw i).mpr ⟨p, c⟩
      exact ⟨pp, by rw [← hH i pp]; exact q⟩
    · rintro ⟨p, q⟩
      obtain ⟨p1, p2⟩ := (pw i).mp p
      exact ⟨⟨p1, by rw [hH i p]; exact q⟩, p2⟩
  · show bt (N1.1 2 &&& (f_X4_of (nI v) ^^^ (-1))) i = _
    rw [Bool.eq_iff_iff, band_i v24 hi, n3 i hi, tB_iff]
    exact (rr i).symm
  · show N1.2 3 0 = 0 ∧ N1.2 4 0 = 0
    rw [n2]
    exact R.2.2.2.1
  · show N1.2 3 w = _ ∧ ∀ j, j < 32 → bt (N1.2 4 w) j = _
    have q := (pw w).mp hw
    rw [n2, ← hU w hw]
    obtain ⟨d1, d2⟩ := R.2.2.2.2.1 w p q.1
    refine ⟨d1, fun j hj => ?_⟩
    rw [d2 j hj]
    by_cases c : j < 8
    · rw [un0 w _ j hw ((pw _).mpr ⟨(W.2.2.1 w p q.1).2, leaf w q.1 p⟩) c]
    · simp [c]
  · show N1.2 5 w = _ ∧ ∀ c, c < 8 → N1.2 6 (8 * w + c) = _
    have q := (pw w).mp hw
    rw [n2]
    obtain ⟨d1, d2⟩ := R.2.2.2.2.2.1 w q.1
    exact ⟨by rw [eo w 4 q.1 q.2 (by decide) (by omega)]; exact d1, fun c hc => by rw [eo w _ q.1 q.2 (by omega) (by omega)]; exact d2 c hc⟩
  · rw [e _ (by omega) (by omega) (by omega), ← R.2.2.2.2.2.2 j a c, ← n1 j (by omega)]
    show upd (upd (upd N1.1 0 _) 1 _) 2 _ j = _
    rw [pk_un (by omega), pk_un (by omega), pk_un (by omega)]
  · have q := (pw w).mp hw
    rw [eo w 4 q.1 q.2 (by decide) (by omega)]
    exact b w q.1
end RMV
