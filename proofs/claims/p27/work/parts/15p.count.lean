/-! PURE PART. counting: trees, differences, askings -/
theorem cntB_del {q : Nat → Bool} {j : Nat} (hq : q j = true) : ∀ {n : Nat}, j < n → cntB q n = cntB (fun i => q i && decide (i ≠ j)) n + 1
  | 0, h => absurd h (Nat.not_lt_zero _)
  | n + 1, h => by
    show cntB q n + (if q n = true then 1 else 0) = cntB (fun i => q i && decide (i ≠ j)) n + (if (q n && decide (n ≠ j)) = true then 1 else 0) + 1
    by_cases c : n = j
    · subst c
      have e : cntB q n = cntB (fun i => q i && decide (i ≠ n)) n := cntB_congr (fun i hi => by
        have : i ≠ n := by omega
        simp [this])
      rw [if_pos hq, e, if_neg (by simp)]
    · have ih := cntB_del hq (n := n) (by omega)
      have e : (q n && decide (n ≠ j)) = q n := by simp [c]
      rw [ih, e]
      omega
theorem cntB_inj (p : Nat → Bool) (f : Nat → Nat) {N : Nat} : ∀ (m : Nat) (q : Nat → Bool), (∀ i, i < m → p i = true → f i < N ∧ q (f i) = true) → (∀ i j, i < m → j < m → p i = true → p j = true → f i = f j → i = j) → cntB p m ≤ cntB q N
  | 0, _, _, _ => Nat.zero_le _
  | m + 1, q, h1, h2 => by
    show cntB p m + (if p m = true then 1 else 0) ≤ cntB q N
    by_cases c : p m = true
    · obtain ⟨a, b⟩ := h1 m (by omega) c
      have ih := cntB_inj p f m (fun i => q i && decide (i ≠ f m)) (fun i hi hp => by
        obtain ⟨x, y⟩ := h1 i (by omega) hp
        have ne : f i ≠ f m := fun z => by have := h2 i m (by omega) (by omega) hp c z; omega
        exact ⟨x, by simp [y, ne]⟩) (fun i j hi hj => h2 i j (by omega) (by omega))
      rw [if_pos c, cntB_del b a]
      omega
    · rw [if_neg c]
      exact cntB_inj p f m q (fun i hi => h1 i (by omega)) (fun i j hi hj => h2 i j (by omega) (by omega))
theorem cntB_split (p b : Nat → Bool) : ∀ n, cntB p n = cntB (fun i => p i && b i) n + cntB (fun i => p i && !b i) n
  | 0 => rfl
  | n + 1 => by
    have ih := cntB_split p b n
    show cntB p n + (if p n = true then 1 else 0) = cntB (fun i => p i && b i) n + (if (p n && b n) = true then 1 else 0) + (cntB (fun i => p i && !b i) n + (if (p n && !b n) = true then 1 else 0))
    rw [ih]
    cases p n <;> cases b n <;> simp <;> omega
theorem cntB_or {p q r : Nat → Bool} (h : ∀ i, p i = true → q i = true ∨ r i = true) : ∀ n, cntB p n ≤ cntB q n + cntB r n
  | 0 => Nat.le_refl _
  | n + 1 => by
    have ih := cntB_or h n
    have hn := h n
    show cntB p n + (if p n = true then 1 else 0) ≤ cntB q n + (if q n = true then 1 else 0) + (cntB r n + (if r n = true then 1 else 0))
    by_cases c : p n = true
    · rw [if_pos c]
      rcases hn c with d | d
      · rw [if_pos d]; split <;> omega
      · rw [if_pos d]; split <;> omega
    · rw [if_neg c]; omega
def kB (s : Nat → Int32) (i : Nat) : Bool := pB s i && rH s i
def oB (s : Nat → Int32) (i : Nat) : Bool := pB s i && !rH s i
section TREES
variable {s : Nat → Int32}
/-- a tree has one root, and one top -/
theorem roots_tops (W : SH s) (L : FL s) : cntB (tB s) 24 = cntB (oB s) 24 := by
  have T := W.tr
  have oB_iff : ∀ i, oB s i = true ↔ rP s i ∧ ¬ rH s i = true := fun i => by
    unfold oB
    rw [Bool.and_eq_true, pB_iff]
    simp
  refine Nat.le_antisymm ?_ ?_
  · refine cntB_inj _ (rT s) 24 _ (fun i _ hi => ?_) (fun i j _ _ hi hj e => L.2.2.1 i j (tB_iff.mp hi) (tB_iff.mp hj) e)
    obtain ⟨p1, p2⟩ := tp_P T (tB_iff.mp hi).1
    refine ⟨p1.1, (oB_iff _).mpr ⟨p1, fun g => ?_⟩⟩
    have := ht_hg T p1 g
    omega
  · have ex : ∀ i, ∃ w, oB s i = true → rR s w ∧ rT s w = rT s i := fun i => by
      by_cases c : oB s i = true
      · obtain ⟨w, a, b⟩ := L.2.1 i ((oB_iff i).mp c).1
        exact ⟨w, fun _ => ⟨a, b⟩⟩
      · exact ⟨0, fun z => absurd z c⟩
    refine cntB_inj _ (fun i => Classical.choose (ex i)) 24 _ (fun i _ hi => ?_) (fun i j _ _ hi hj e => ?_)
    · have k := Classical.choose_spec (ex i) hi
      exact ⟨k.1.1.1, tB_iff.mpr k.1⟩
    · have k := (Classical.choose_spec (ex i) hi).2
      have k' := (Classical.choose_spec (ex j) hj).2
      have e : Classical.choose (ex i) = Classical.choose (ex j) := e
      rw [e] at k
      have k3 := k.symm.trans k'
      rw [show rT s i = i from tp_no ((oB_iff i).mp hi).2, show rT s j = j from tp_no ((oB_iff j).mp hj).2] at k3
      exact k3
theorem roots_kept (W : SH s) (L : FL s) : cntB (tB s) 24 + cntB (kB s) 24 = cntB (pB s) 24 := by
  rw [roots_tops W L, cntB_split (pB s) (rH s) 24, Nat.add_comm]
  rfl
/-! cells in which versions are unlike -/
theorem uc_self (v : Nat) : uc s v v = 0 := by
  have : uc s v v = cntB (fun _ => false) 8 := cntB_congr (fun i _ => by unfold un; simp)
  rw [this]
  decide
theorem uc_tri (u v w : Nat) : uc s u w ≤ uc s u v + uc s v w := by
  refine cntB_or (fun i hi => ?_) 8
  unfold un at *
  by_cases c : s (13 * u + (5 + i)) = s (13 * v + (5 + i))
  · right
    rw [← c]
    exact hi
  · left
    simp [c]
theorem uc_up (k : Nat) : ∀ v, uc s v (itr (rU s) k v) ≤ UU (rU s) (rW s) k v := by
  induction k with
  | zero => intro v; exact Nat.le_of_eq (uc_self v)
  | succ k ih =>
    intro v
    refine Nat.le_trans (uc_tri v (rU s v) _) ?_
    show rW s v + _ ≤ rW s v + _
    exact Nat.add_le_add_left (ih (rU s v)) _
theorem uc_way (W : SH s) {u v : Nat} (hu : rP s u) (hv : rP s v) (e : rT s u = rT s v) : uc s u v ≤ yC s u v := by
  have m := AA_meet W.tr hu hv e
  have a := uc_up (s := s) (AA (rU s) (rH s) u v) u
  have b := uc_up (s := s) (AA (rU s) (rH s) v u) v
  rw [m] at a
  rw [uc_comm] at b
  exact Nat.le_trans (uc_tri u _ v) (Nat.add_le_add a b)
theorem yD_zero (W : SH s) {w v : Nat} (hw : rP s w) (hv : rP s v) (e : rT s w = rT s v) : yD s w v = 0 ↔ w = v := by
  constructor
  · intro z
    have h1 := PP_end W.tr hw hv e
    have z : DD (rU s) (rH s) w v = 0 := z
    rw [z, PP_zero] at h1
    exact h1
  · intro z
    rw [z]
    exact (way_self (wt := rW s) W.tr hv).1
end TREES
/-! askings -/
def aK (s : Nat → Int32) (i : Nat) : Nat := if pB s i = true then (s (13 * i + 4)).toNatClampNeg else 0
theorem SM_congr {f g : Nat → Nat} : ∀ {n : Nat}, (∀ i, i < n → f i = g i) → SM f n = SM g n
  | 0, _ => rfl
  | n + 1, h => by
    show SM f n + f n = SM g n + g n
    rw [SM_congr (fun i hi => h i (by omega)), h n (by omega)]
theorem SM_le {f g : Nat → Nat} : ∀ {n : Nat}, (∀ i, i < n → f i ≤ g i) → SM f n ≤ SM g n
  | 0, _ => Nat.le_refl _
  | n + 1, h => Nat.add_le_add (SM_le (fun i hi => h i (by omega))) (h n (by omega))
theorem SM_up {f g : Nat → Nat} {v d : Nat} (hv : f v = g v + d) (ho : ∀ i, i ≠ v → f i = g i) : ∀ {n : Nat}, v < n → SM f n = SM g n + d
  | 0, h => absurd h (Nat.not_lt_zero _)
  | n + 1, h => by
    show SM f n + f n = SM g n + g n + d
    by_cases c : n = v
    · subst c
      rw [SM_congr (fun i hi => ho i (by omega)), hv]
      omega
    · rw [SM_up hv ho (by omega), ho n c]
      omega
/-- few versions; askings and costs add up -/
def GD (s : Nat → Int32) (n : Nat) : Prop := cntB (pB s) 24 ≤ 14 ∧ ∃ a c, s 314 = nI a ∧ s 315 = nI c ∧ a ≤ n ∧ a ≤ c ∧ c ≤ 369 * n ∧ SM (aK s) 24 ≤ a
theorem GD.mono {s : Nat → Int32} {n m : Nat} (h : GD s n) (hm : n ≤ m) : GD s m := by
  obtain ⟨h1, a, c, e1, e2, h2, h3, h4, h5⟩ := h
  exact ⟨h1, a, c, e1, e2, by omega, h3, by omega, h5⟩
theorem pB_eq {s s' : Nat → Int32} (e0 : ∀ v, v < 24 → s' (13 * v) = s (13 * v)) (i : Nat) : pB s' i = pB s i := by
  unfold pB
  by_cases c : i < 24
  · rw [e0 i c]
  · simp [c]
theorem GD.keep {s s' : Nat → Int32} {n : Nat} (h : GD s n) (e0 : ∀ v, v < 24 → s' (13 * v) = s (13 * v)) (e4 : ∀ v, v < 24 → s' (13 * v + 4) = s (13 * v + 4)) (e5 : s' 314 = s 314) (e6 : s' 315 = s 315) : GD s' n := by
  obtain ⟨h1, a, c, f1, f2, h2, h3, h4, h5⟩ := h
  have p := pB_eq e0
  refine ⟨by rw [cntB_congr (fun i _ => p i)]; exact h1, a, c, by rw [e5]; exact f1, by rw [e6]; exact f2, h2, h3, h4, ?_⟩
  rw [SM_congr (g := aK s) (fun i hi => by unfold aK; rw [p i, e4 i hi])]
  exact h5
theorem GD.born {s s' : Nat → Int32} {n v : Nat} (h : GD s n) (h13 : cntB (pB s) 24 ≤ 13) (v24 : v < 24) (nv : ¬ rP s v) (b : BR s s' v) : GD s' n := by
  obtain ⟨h1, a, c, f1, f2, h2, h3, h4, h5⟩ := h
  obtain ⟨b1, b2, b3⟩ := b
  have p : ∀ i, i ≠ v → pB s' i = pB s i := fun i hi => by
    unfold pB
    by_cases c : i < 24
    · rw [b1 (13 * i) (by omega) (by omega)]
    · simp [c]
  have pv : pB s' v = true := pB_iff.mpr ⟨v24, b2⟩
  have pv0 : pB s v = false := by
    cases q : pB s v with
    | false => rfl
    | true => exact absurd (pB_iff.mp q) nv
  refine ⟨?_, a, c, by rw [b1 314 (by omega) (by omega)]; exact f1, by rw [b1 315 (by omega) (by omega)]; exact f2, h2, h3, h4, ?_⟩
  · rw [cntB_del pv v24, cntB_congr (q := pB s) (fun i _ => by
      by_cases z : i = v
      · subst z; simp [pv0]
      · simp [z, p i z])]
    omega
  · rw [SM_congr (g := aK s) (fun i hi => by
      unfold aK
      by_cases z : i = v
      · subst z
        rw [if_pos pv, b3, pv0, if_neg (by decide)]
        rfl
      · rw [p i z, b1 (13 * i + 4) (by omega) (by omega)])]
    exact h5
theorem GD.gone {s : Nat → Int32} {n v : Nat} (h : GD s n) (v24 : v < 24) (hu : rU s v < 24) : GD (goneR s v) n := by
  obtain ⟨h1, a, c, f1, f2, h2, h3, h4, h5⟩ := h
  obtain ⟨g1, g2⟩ := goneR_n (s := s) (v := v)
  have p : ∀ i, i < 24 → pB (goneR s v) i = true → i ≠ v ∧ pB s i = true := fun i hi q => by
    have q := (pB_iff.mp q).2
    by_cases z : i = v
    · subst z
      have := g1 0 (by decide)
      rw [Nat.add_zero] at this
      rw [this] at q
      exact absurd q (by decide)
    · rw [g2 (13 * i) (by omega) (by omega) (by omega)] at q
      exact ⟨z, pB_iff.mpr ⟨hi, q⟩⟩
  refine ⟨Nat.le_trans (cntB_mono (fun i hi q => (p i hi q).2)) h1, a, c, by rw [g2 314 (by omega) (by omega) (by omega)]; exact f1, by rw [g2 315 (by omega) (by omega) (by omega)]; exact f2, h2, h3, h4, Nat.le_trans (SM_le (fun i hi => ?_)) h5⟩
  unfold aK
  by_cases q : pB (goneR s v) i = true
  · obtain ⟨z, q2⟩ := p i hi q
    rw [if_pos q, if_pos q2, g2 (13 * i + 4) (by omega) (by omega) (by omega)]
    exact Nat.le_refl _
  · rw [if_neg q]
    exact Nat.zero_le _
theorem GD.asked {s s' : Nat → Int32} {n v w : Nat} (h : GD s n) (W : SH s) (hb : ∃ k, k ≤ 1000 ∧ s (13 * v + 4) = nI k) (hv : rP s v) (a : RO s v w) (e : ASK s s' v w) : GD s' (n + 1) := by
  obtain ⟨h1, p, c, f1, f2, h2, h3, h4, h5⟩ := h
  obtain ⟨e0, e4, e4v, e5, e6, -⟩ := e
  obtain ⟨k, k1, k2⟩ := hb
  have pe := pB_eq e0
  have cl := wC_le W a.1.1 hv a.2
  refine ⟨by rw [cntB_congr (fun i _ => pe i)]; exact h1, p + 1, c + (1 + yC s w v), by rw [e5, f1, nI_1], by rw [e6, f2, nI_add], by omega, by omega, by omega, ?_⟩
  rw [SM_up (f := aK s') (g := aK s) (v := v) (d := 1) ?_ (fun i hi => ?_) hv.1]
  · omega
  · unfold aK
    rw [pe v, if_pos (pB_iff.mpr hv), if_pos (pB_iff.mpr hv), e4v, k2, nI_1, nI_clamp (by omega), nI_clamp (by omega)]
  · unfold aK
    rw [pe i]
    by_cases q : pB s i = true
    · rw [if_pos q, if_pos q, e4 i (pB_iff.mp q).1 hi]
    · rw [if_neg q, if_neg q]
