/-! PURE PART. trees: up and hangs; heights; ways -/
theorem pigeon : ∀ (N m : Nat) (f : Nat → Nat), (∀ i, i < m → f i < N) → (∀ i j, i < j → j < m → f i ≠ f j) → m ≤ N := by
  intro N
  induction N with
  | zero => intro m f h1 _; rcases Nat.eq_zero_or_pos m with h | h; · omega
            · exact absurd (h1 0 h) (Nat.not_lt_zero _)
  | succ N ih =>
    intro m f h1 h2
    by_cases hx : ∃ i, i < m ∧ f i = N
    · obtain ⟨i, hi, e⟩ := hx
      have := ih (m - 1) (fun j => if j < i then f j else f (j + 1)) (fun j hj => by
        by_cases c : j < i
        · have := h1 j (by omega); have := h2 j i c hi; simp only [if_pos c]; omega
        · have := h1 (j + 1) (by omega); have := h2 i (j + 1) (by omega) (by omega); simp only [if_neg c]; omega) (fun j k hjk hk => by
        by_cases c : j < i
        · by_cases c2 : k < i
          · simp only [if_pos c, if_pos c2]; exact h2 j k hjk (by omega)
          · simp only [if_pos c, if_neg c2]; exact h2 j (k + 1) (by omega) (by omega)
        · simp only [if_neg c, if_neg (show ¬ k < i by omega)]; exact h2 (j + 1) (k + 1) (by omega) (by omega))
      omega
    · have := ih m f (fun i hi => by
        have := h1 i hi
        have : f i ≠ N := fun e => hx ⟨i, hi, e⟩
        omega) h2
      omega
def itr (up : Nat → Nat) : Nat → Nat → Nat
  | 0, v => v
  | k + 1, v => itr up k (up v)
theorem itr_succ (up : Nat → Nat) : ∀ (k v : Nat), itr up (k + 1) v = up (itr up k v)
  | 0, _ => rfl
  | k + 1, v => itr_succ up k (up v)
theorem itr_add (up : Nat → Nat) : ∀ (j k v : Nat), itr up (j + k) v = itr up k (itr up j v)
  | 0, k, v => by rw [Nat.zero_add]; rfl
  | j + 1, k, v => by
    rw [show j + 1 + k = (j + k) + 1 by omega]
    exact itr_add up j k (up v)
def hN (up : Nat → Nat) (hg : Nat → Bool) : Nat → Nat → Nat
  | 0, _ => 0
  | n + 1, v => if hg v = true then hN up hg n (up v) + 1 else 0
def ht (up : Nat → Nat) (hg : Nat → Bool) (v : Nat) : Nat := hN up hg 24 v
def tp (up : Nat → Nat) (hg : Nat → Bool) (v : Nat) : Nat := itr up (ht up hg v) v
/-- u lies above v, or is it -/
abbrev cm (up : Nat → Nat) (hg : Nat → Bool) (v u : Nat) : Prop := ht up hg u ≤ ht up hg v ∧ itr up (ht up hg v - ht up hg u) v = u
def TR (P : Nat → Prop) (up : Nat → Nat) (hg : Nat → Bool) : Prop := (∀ v, P v → v < 24) ∧ (∀ v, P v → hg v = true → P (up v)) ∧ ∃ r : Nat → Nat, ∀ v, P v → hg v = true → r (up v) < r v
section TREE
variable {P : Nat → Prop} {up : Nat → Nat} {hg : Nat → Bool}
theorem hN_chain (T : TR P up hg) {r : Nat → Nat} (hr : ∀ v, P v → hg v = true → r (up v) < r v) : ∀ (n v : Nat), P v → ∀ j, j ≤ hN up hg n v → P (itr up j v) ∧ (∀ i, i < j → r (itr up j v) < r (itr up i v)) ∧ (j < hN up hg n v → hg (itr up j v) = true)
  | 0, v, h, j, hj => by
    have : j = 0 := by simpa [hN] using hj
    subst this
    exact ⟨h, fun i hi => absurd hi (Nat.not_lt_zero _), fun h2 => absurd h2 (by simp [hN])⟩
  | n + 1, v, h, j, hj => by
    by_cases c : hg v = true
    · have e : hN up hg (n + 1) v = hN up hg n (up v) + 1 := by rw [hN, if_pos c]
      rw [e] at hj ⊢
      cases j with
      | zero => exact ⟨h, fun i hi => absurd hi (Nat.not_lt_zero _), fun _ => c⟩
      | succ j =>
        obtain ⟨h1, h2, h3⟩ := hN_chain T hr n (up v) (T.2.1 v h c) j (by omega)
        refine ⟨h1, fun i hi => ?_, fun hh => h3 (by omega)⟩
        cases i with
        | zero =>
          show r (itr up j (up v)) < r v
          have h4 := hr v h c
          cases j with
          | zero => exact h4
          | succ j => exact Nat.lt_trans (h2 0 (by omega)) h4
        | succ i => exact h2 i (by omega)
    · have e : hN up hg (n + 1) v = 0 := by rw [hN, if_neg c]
      rw [e] at hj ⊢
      have : j = 0 := by omega
      subst this
      exact ⟨h, fun i hi => absurd hi (Nat.not_lt_zero _), fun h2 => absurd h2 (Nat.not_lt_zero _)⟩
theorem hN_le (T : TR P up hg) {n v : Nat} (h : P v) : hN up hg n v ≤ 23 := by
  obtain ⟨r, hr⟩ := T.2.2
  have := pigeon 24 (hN up hg n v + 1) (fun j => itr up j v) (fun i hi => T.1 _ (hN_chain T hr n v h i (by omega)).1) (fun i j hij hj e => by
    have h1 := (hN_chain T hr n v h j (by omega)).2.1 i hij
    have e : itr up i v = itr up j v := e
    rw [e] at h1
    omega)
  omega
theorem hN_stable : ∀ (n v : Nat), hN up hg n v < n → hN up hg (n + 1) v = hN up hg n v
  | 0, _, h => absurd h (Nat.not_lt_zero _)
  | n + 1, v, h => by
    by_cases c : hg v = true
    · have e1 : hN up hg (n + 1) v = hN up hg n (up v) + 1 := by rw [hN, if_pos c]
      have e2 : hN up hg (n + 1 + 1) v = hN up hg (n + 1) (up v) + 1 := by rw [hN, if_pos c]
      rw [e1] at h
      rw [e1, e2, hN_stable n (up v) (by omega)]
    · have e1 : hN up hg (n + 1) v = 0 := by rw [hN, if_neg c]
      have e2 : hN up hg (n + 1 + 1) v = 0 := by rw [hN, if_neg c]
      rw [e1, e2]
theorem ht_le (T : TR P up hg) {v : Nat} (h : P v) : ht up hg v ≤ 23 := hN_le T h
theorem ht_hg (T : TR P up hg) {v : Nat} (h : P v) (c : hg v = true) : ht up hg v = ht up hg (up v) + 1 := by
  have h1 : hN up hg 25 v = hN up hg 24 v := hN_stable 24 v (by have := hN_le T h (n := 24); omega)
  unfold ht
  rw [← h1, hN, if_pos c]
theorem ht_no {v : Nat} (c : ¬ hg v = true) : ht up hg v = 0 := by
  unfold ht
  rw [hN, if_neg c]
theorem hg_of (T : TR P up hg) {v : Nat} (h : 0 < ht up hg v) : hg v = true := by
  by_cases c : hg v = true
  · exact c
  · rw [ht_no c] at h; omega
theorem it_P (T : TR P up hg) : ∀ (k v : Nat), P v → k ≤ ht up hg v → P (itr up k v) ∧ ht up hg (itr up k v) = ht up hg v - k
  | 0, v, h, _ => ⟨h, rfl⟩
  | k + 1, v, h, hk => by
    have c := hg_of T (v := v) (by omega)
    have e := ht_hg T h c
    obtain ⟨h1, h2⟩ := it_P T k (up v) (T.2.1 v h c) (by omega)
    exact ⟨h1, by show ht up hg (itr up k (up v)) = _; rw [h2]; omega⟩
theorem tp_P (T : TR P up hg) {v : Nat} (h : P v) : P (tp up hg v) ∧ ht up hg (tp up hg v) = 0 := by
  obtain ⟨h1, h2⟩ := it_P T (ht up hg v) v h (Nat.le_refl _)
  exact ⟨h1, by rw [tp, h2]; omega⟩
theorem tp_up (T : TR P up hg) {v : Nat} (h : P v) (c : hg v = true) : tp up hg (up v) = tp up hg v := by
  unfold tp
  rw [ht_hg T h c]
  rfl
theorem tp_no {v : Nat} (c : ¬ hg v = true) : tp up hg v = v := by
  unfold tp
  rw [ht_no c]
  rfl
theorem tp_it (T : TR P up hg) : ∀ (k v : Nat), P v → k ≤ ht up hg v → tp up hg (itr up k v) = tp up hg v
  | 0, _, _, _ => rfl
  | k + 1, v, h, hk => by
    have c := hg_of T (v := v) (by omega)
    have e := ht_hg T h c
    show tp up hg (itr up k (up v)) = _
    rw [tp_it T k (up v) (T.2.1 v h c) (by omega), tp_up T h c]
theorem cm_refl (v : Nat) : cm up hg v v := ⟨Nat.le_refl _, by rw [Nat.sub_self]; rfl⟩
theorem cm_P (T : TR P up hg) {v u : Nat} (h : P v) (c : cm up hg v u) : P u := by
  obtain ⟨h1, h2⟩ := c
  rw [← h2]
  exact (it_P T _ v h (by omega)).1
theorem cm_tp' (T : TR P up hg) {v u : Nat} (h : P v) (c : cm up hg v u) : tp up hg u = tp up hg v := by
  obtain ⟨h1, h2⟩ := c
  have := tp_it T (ht up hg v - ht up hg u) v h (by omega)
  rw [h2] at this
  exact this
theorem cm_it (T : TR P up hg) {v k : Nat} (h : P v) (hk : k ≤ ht up hg v) : cm up hg v (itr up k v) := by
  obtain ⟨h1, h2⟩ := it_P T k v h hk
  refine ⟨by omega, ?_⟩
  rw [h2, show ht up hg v - (ht up hg v - k) = k by omega]
theorem cm_top (T : TR P up hg) {v : Nat} (h : P v) : cm up hg v (tp up hg v) := cm_it T h (Nat.le_refl _)
theorem cm_up (T : TR P up hg) {v u : Nat} (h : P v) (c : cm up hg v u) (g : hg u = true) : cm up hg v (up u) := by
  have hu := cm_P T h c
  obtain ⟨h1, h2⟩ := c
  have e := ht_hg T hu g
  have h3 := cm_it T h (k := ht up hg v - ht up hg u + 1) (by omega)
  rw [itr_succ, h2] at h3
  exact h3
/-- the one below u on the way down to v -/
theorem cm_child (T : TR P up hg) {v u : Nat} (h : P v) (c : cm up hg v u) (n : u ≠ v) : ∃ w, hg w = true ∧ up w = u ∧ cm up hg v w ∧ ht up hg w = ht up hg u + 1 := by
  obtain ⟨h1, h2⟩ := c
  have hlt : ht up hg u < ht up hg v := by
    rcases Nat.lt_or_ge (ht up hg u) (ht up hg v) with q | q
    · exact q
    · rw [show ht up hg v - ht up hg u = 0 by omega] at h2
      exact absurd h2.symm n
  have hk : ht up hg v - ht up hg u - 1 ≤ ht up hg v := by omega
  obtain ⟨h3, h4⟩ := it_P T (ht up hg v - ht up hg u - 1) v h hk
  refine ⟨itr up (ht up hg v - ht up hg u - 1) v, hg_of T (by omega), ?_, cm_it T h hk, by omega⟩
  rw [← itr_succ up, show ht up hg v - ht up hg u - 1 + 1 = ht up hg v - ht up hg u by omega, h2]
theorem cm_inj {v u w : Nat} (c : cm up hg v u) (c2 : cm up hg v w) (e : ht up hg u = ht up hg w) : u = w := by
  rw [← c.2, ← c2.2, e]
theorem cm_trans (T : TR P up hg) {v u w : Nat} (h : P v) (c : cm up hg v u) (c2 : cm up hg u w) : cm up hg v w := by
  refine ⟨Nat.le_trans c2.1 c.1, ?_⟩
  have h1 := c.1
  have h2 := c2.1
  rw [show ht up hg v - ht up hg w = (ht up hg v - ht up hg u) + (ht up hg u - ht up hg w) by omega, itr_add, c.2, c2.2]
/-- how far up from u to the first that lies above v -/
def aN (up : Nat → Nat) (hg : Nat → Bool) : Nat → Nat → Nat → Nat
  | 0, _, _ => 0
  | n + 1, u, v => if cm up hg v u then 0 else aN up hg n (up u) v + 1
def AA (up : Nat → Nat) (hg : Nat → Bool) (u v : Nat) : Nat := aN up hg 24 u v
theorem aN_spec (T : TR P up hg) : ∀ (n u v : Nat), P u → P v → tp up hg u = tp up hg v → ht up hg u < n → aN up hg n u v ≤ ht up hg u ∧ cm up hg v (itr up (aN up hg n u v) u) ∧ ∀ j, j < aN up hg n u v → ¬ cm up hg v (itr up j u)
  | 0, _, _, _, _, _, h => absurd h (Nat.not_lt_zero _)
  | n + 1, u, v, hu, hv, ht1, hn => by
    rw [aN]
    by_cases c : cm up hg v u
    · rw [if_pos c]
      exact ⟨Nat.zero_le _, c, fun j hj => absurd hj (Nat.not_lt_zero _)⟩
    · rw [if_neg c]
      have g : hg u = true := by
        by_cases g : hg u = true
        · exact g
        · rw [tp_no g] at ht1
          exact absurd (ht1 ▸ cm_top T hv) c
      have e := ht_hg T hu g
      obtain ⟨h1, h2, h3⟩ := aN_spec T n (up u) v (T.2.1 u hu g) hv (by rw [tp_up T hu g]; exact ht1) (by omega)
      refine ⟨by omega, h2, fun j hj => ?_⟩
      cases j with
      | zero => exact c
      | succ j => exact h3 j (by omega)
theorem AA_spec (T : TR P up hg) {u v : Nat} (hu : P u) (hv : P v) (e : tp up hg u = tp up hg v) : AA up hg u v ≤ ht up hg u ∧ cm up hg v (itr up (AA up hg u v) u) ∧ ∀ j, j < AA up hg u v → ¬ cm up hg v (itr up j u) :=
  aN_spec T 24 u v hu hv e (by have := ht_le T hu; omega)
theorem AA_uniq (T : TR P up hg) {u v k : Nat} (hu : P u) (hv : P v) (e : tp up hg u = tp up hg v) (h1 : cm up hg v (itr up k u)) (h2 : ∀ j, j < k → ¬ cm up hg v (itr up j u)) : AA up hg u v = k := by
  obtain ⟨-, a2, a3⟩ := AA_spec T hu hv e
  rcases Nat.lt_trichotomy (AA up hg u v) k with q | q | q
  · exact absurd a2 (h2 _ q)
  · exact q
  · exact absurd h1 (a3 _ q)
/-- where the two meet -/
theorem AA_meet (T : TR P up hg) {u v : Nat} (hu : P u) (hv : P v) (e : tp up hg u = tp up hg v) : itr up (AA up hg u v) u = itr up (AA up hg v u) v := by
  obtain ⟨a1, a2, a3⟩ := AA_spec T hu hv e
  obtain ⟨b1, b2, b3⟩ := AA_spec T hv hu e.symm
  have ca := cm_it T hu a1
  have cb := cm_it T hv b1
  have ha := (it_P T _ u hu a1).2
  have hb := (it_P T _ v hv b1).2
  refine cm_inj ca b2 ?_
  have h1 : AA up hg v u ≤ ht up hg v - ht up hg (itr up (AA up hg u v) u) := by
    rcases Nat.lt_or_ge (ht up hg v - ht up hg (itr up (AA up hg u v) u)) (AA up hg v u) with q | q
    · exact absurd (by rw [a2.2]; exact ca) (b3 _ q)
    · exact q
  have h2 : AA up hg u v ≤ ht up hg u - ht up hg (itr up (AA up hg v u) v) := by
    rcases Nat.lt_or_ge (ht up hg u - ht up hg (itr up (AA up hg v u) v)) (AA up hg u v) with q | q
    · exact absurd (by rw [b2.2]; exact cb) (a3 _ q)
    · exact q
  have := a2.1
  have := b2.1
  omega
theorem AA_ht (T : TR P up hg) {u v : Nat} (hu : P u) (hv : P v) (e : tp up hg u = tp up hg v) : ht up hg (itr up (AA up hg u v) u) + AA up hg v u = ht up hg v := by
  obtain ⟨b1, -, -⟩ := AA_spec T hv hu e.symm
  rw [AA_meet T hu hv e, (it_P T _ v hv b1).2]
  omega
theorem AA_cm (T : TR P up hg) {u v : Nat} (hu : P u) (hv : P v) (c : cm up hg v u) : AA up hg u v = 0 ∧ AA up hg v u = ht up hg v - ht up hg u := by
  have e : tp up hg u = tp up hg v := cm_tp' T hv c
  have h0 : AA up hg u v = 0 := AA_uniq T hu hv e c (fun j hj => absurd hj (Nat.not_lt_zero _))
  have := AA_ht T hu hv e
  rw [h0] at this
  refine ⟨h0, ?_⟩
  have h1 : ht up hg u + AA up hg v u = ht up hg v := this
  omega
/-- one up from one that is not above v -/
theorem AA_step (T : TR P up hg) {u v : Nat} (hu : P u) (hv : P v) (e : tp up hg u = tp up hg v) (c : ¬ cm up hg v u) : hg u = true ∧ AA up hg u v = AA up hg (up u) v + 1 ∧ AA up hg v u = AA up hg v (up u) := by
  have g : hg u = true := by
    by_cases g : hg u = true
    · exact g
    · rw [tp_no g] at e
      exact absurd (e ▸ cm_top T hv) c
  have hu2 := T.2.1 u hu g
  have e2 : tp up hg (up u) = tp up hg v := by rw [tp_up T hu g]; exact e
  obtain ⟨a1, a2, a3⟩ := AA_spec T hu2 hv e2
  have h1 : AA up hg u v = AA up hg (up u) v + 1 := AA_uniq T hu hv e a2 (fun j hj => by
    cases j with
    | zero => exact c
    | succ j => exact a3 j (by omega))
  refine ⟨g, h1, ?_⟩
  have h2 := AA_ht T hu hv e
  have h3 := AA_ht T hu2 hv e2
  rw [h1] at h2
  have h4 : itr up (AA up hg (up u) v + 1) u = itr up (AA up hg (up u) v) (up u) := rfl
  rw [h4] at h2
  omega
end TREE
