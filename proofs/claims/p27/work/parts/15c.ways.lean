/-! PURE PART. ways between two of a tree; what happens to tops -/
def UU (up : Nat → Nat) (wt : Nat → Nat) : Nat → Nat → Nat
  | 0, _ => 0
  | k + 1, u => wt u + UU up wt k (up u)
theorem UU_succ (up wt : Nat → Nat) : ∀ (k u : Nat), UU up wt (k + 1) u = UU up wt k u + wt (itr up k u)
  | 0, u => by show wt u + 0 = 0 + wt u; omega
  | k + 1, u => by
    show wt u + UU up wt (k + 1) (up u) = wt u + UU up wt k (up u) + wt (itr up k (up u))
    rw [UU_succ up wt k (up u), Nat.add_assoc]
theorem UU_le (up wt : Nat → Nat) (B : Nat) (hB : ∀ v, wt v ≤ B) : ∀ (k u : Nat), UU up wt k u ≤ k * B
  | 0, _ => Nat.zero_le _
  | k + 1, u => by
    have h1 := hB u
    have h2 := UU_le up wt B hB k (up u)
    rw [Nat.succ_mul]
    show wt u + _ ≤ _
    omega
def DD (up : Nat → Nat) (hg : Nat → Bool) (u v : Nat) : Nat := AA up hg u v + AA up hg v u
def CC (up : Nat → Nat) (hg : Nat → Bool) (wt : Nat → Nat) (u v : Nat) : Nat := UU up wt (AA up hg u v) u + UU up wt (AA up hg v u) v
theorem DD_comm (up : Nat → Nat) (hg : Nat → Bool) (u v : Nat) : DD up hg u v = DD up hg v u := Nat.add_comm _ _
theorem CC_comm (up : Nat → Nat) (hg : Nat → Bool) (wt : Nat → Nat) (u v : Nat) : CC up hg wt u v = CC up hg wt v u := Nat.add_comm _ _
/-- the k-th on the way from u to v -/
def PP (up : Nat → Nat) (hg : Nat → Bool) (u v k : Nat) : Nat := if k ≤ AA up hg u v then itr up k u else itr up (DD up hg u v - k) v
section WAYS
variable {P : Nat → Prop} {up : Nat → Nat} {hg : Nat → Bool} {wt : Nat → Nat}
theorem way_self (T : TR P up hg) {v : Nat} (h : P v) : DD up hg v v = 0 ∧ CC up hg wt v v = 0 := by
  obtain ⟨h1, h2⟩ := AA_cm T h h (cm_refl v)
  unfold DD CC
  rw [h1]
  exact ⟨rfl, rfl⟩
theorem way_up (T : TR P up hg) {u v : Nat} (hu : P u) (hv : P v) (e : tp up hg u = tp up hg v) (c : ¬ cm up hg v u) : hg u = true ∧ DD up hg u v = DD up hg (up u) v + 1 ∧ CC up hg wt u v = wt u + CC up hg wt (up u) v := by
  obtain ⟨g, h1, h2⟩ := AA_step T hu hv e c
  refine ⟨g, ?_, ?_⟩
  · unfold DD
    rw [h1, h2]; omega
  · unfold CC
    rw [h1, h2]
    show wt u + _ + _ = _
    rw [Nat.add_assoc]
theorem way_down (T : TR P up hg) {w v : Nat} (hv : P v) (g : hg w = true) (c : cm up hg v w) : DD up hg (up w) v = DD up hg w v + 1 ∧ CC up hg wt (up w) v = wt w + CC up hg wt w v := by
  have hw := cm_P T hv c
  have hu := T.2.1 w hw g
  have c2 := cm_up T hv c g
  obtain ⟨a1, a2⟩ := AA_cm T hw hv c
  obtain ⟨b1, b2⟩ := AA_cm T hu hv c2
  have e := ht_hg T hw g
  have h1 := c.1
  have h3 : AA up hg v (up w) = AA up hg v w + 1 := by omega
  unfold DD CC
  rw [a1, b1, h3, UU_succ, a2, c.2]
  refine ⟨by omega, ?_⟩
  show 0 + _ = _ + (0 + _)
  omega
theorem PP_zero (u v : Nat) : PP up hg u v 0 = u := by
  unfold PP
  rw [if_pos (Nat.zero_le _)]
  rfl
theorem PP_end (T : TR P up hg) {u v : Nat} (hu : P u) (hv : P v) (e : tp up hg u = tp up hg v) : PP up hg u v (DD up hg u v) = v := by
  unfold PP
  by_cases c : DD up hg u v ≤ AA up hg u v
  · have h0 : AA up hg v u = 0 := by unfold DD at c; omega
    have h1 : DD up hg u v = AA up hg u v := by unfold DD; omega
    rw [if_pos c, h1, AA_meet T hu hv e, h0]
    rfl
  · rw [if_neg c, Nat.sub_self]
    rfl
theorem PP_P (T : TR P up hg) {u v k : Nat} (hu : P u) (hv : P v) (e : tp up hg u = tp up hg v) (hk : k ≤ DD up hg u v) : P (PP up hg u v k) ∧ tp up hg (PP up hg u v k) = tp up hg v := by
  obtain ⟨a1, -, -⟩ := AA_spec T hu hv e
  obtain ⟨b1, -, -⟩ := AA_spec T hv hu e.symm
  unfold PP
  by_cases c : k ≤ AA up hg u v
  · rw [if_pos c]
    exact ⟨(it_P T k u hu (by omega)).1, by rw [tp_it T k u hu (by omega), e]⟩
  · rw [if_neg c]
    have h1 : DD up hg u v - k ≤ ht up hg v := by unfold DD at *; omega
    exact ⟨(it_P T _ v hv h1).1, tp_it T _ v hv h1⟩
/-- each step of a way: up, before the two legs meet; down, after -/
theorem PP_step (T : TR P up hg) {u v k : Nat} (hu : P u) (hv : P v) (e : tp up hg u = tp up hg v) (hk : k < DD up hg u v) : (¬ cm up hg v (PP up hg u v k) ∧ k < AA up hg u v ∧ PP up hg u v (k + 1) = up (PP up hg u v k)) ∨ (cm up hg v (PP up hg u v k) ∧ AA up hg u v ≤ k ∧ hg (PP up hg u v (k + 1)) = true ∧ up (PP up hg u v (k + 1)) = PP up hg u v k ∧ cm up hg v (PP up hg u v (k + 1))) := by
  obtain ⟨a1, a2, a3⟩ := AA_spec T hu hv e
  obtain ⟨b1, -, -⟩ := AA_spec T hv hu e.symm
  have m := AA_meet T hu hv e
  rcases Nat.lt_or_ge k (AA up hg u v) with c | c
  · left
    have e1 : PP up hg u v k = itr up k u := by unfold PP; rw [if_pos (by omega)]
    have e2 : PP up hg u v (k + 1) = itr up (k + 1) u := by unfold PP; rw [if_pos (by omega)]
    rw [e1, e2]
    exact ⟨a3 k c, c, itr_succ up k u⟩
  · right
    have e1 : PP up hg u v k = itr up (DD up hg u v - k) v := by
      unfold PP
      by_cases q : k ≤ AA up hg u v
      · have q2 : k = AA up hg u v := by omega
        rw [if_pos q, q2, m]
        congr 1
        unfold DD; omega
      · rw [if_neg q]
    have e2 : PP up hg u v (k + 1) = itr up (DD up hg u v - (k + 1)) v := by unfold PP; rw [if_neg (by omega)]
    have h1 : DD up hg u v - (k + 1) < ht up hg v := by unfold DD at *; omega
    have h2 : DD up hg u v - k ≤ ht up hg v := by unfold DD at *; omega
    obtain ⟨p1, p2⟩ := it_P T _ v hv (Nat.le_of_lt h1)
    rw [e1, e2]
    refine ⟨cm_it T hv h2, c, hg_of T (by rw [p2]; omega), ?_, cm_it T hv (Nat.le_of_lt h1)⟩
    rw [← itr_succ up, show DD up hg u v - (k + 1) + 1 = DD up hg u v - k by omega]
theorem DD_le (T : TR P up hg) {u v : Nat} (hu : P u) (hv : P v) (e : tp up hg u = tp up hg v) : DD up hg u v ≤ 23 := by
  obtain ⟨a1, a2, a3⟩ := AA_spec T hu hv e
  obtain ⟨b1, -, -⟩ := AA_spec T hv hu e.symm
  have := pigeon 24 (DD up hg u v + 1) (PP up hg u v) (fun k hk => T.1 _ (PP_P T hu hv e (by omega)).1) (fun i j hij hj q => by
    unfold PP at q
    by_cases c : j ≤ AA up hg u v
    · rw [if_pos c, if_pos (show i ≤ AA up hg u v by omega)] at q
      have h1 := (it_P T i u hu (by omega)).2
      have h2 := (it_P T j u hu (by omega)).2
      rw [q] at h1
      omega
    · rw [if_neg c] at q
      have h3 : DD up hg u v - j ≤ ht up hg v := by unfold DD at *; omega
      have h2 := (it_P T _ v hv h3).2
      by_cases c2 : i ≤ AA up hg u v
      · rw [if_pos c2] at q
        have h1 := (it_P T i u hu (by omega)).2
        have h5 : cm up hg v (itr up i u) := by rw [q]; exact cm_it T hv h3
        have h6 : AA up hg u v ≤ i := by
          rcases Nat.lt_or_ge i (AA up hg u v) with z | z
          · exact absurd h5 (a3 i z)
          · exact z
        have h7 : i = AA up hg u v := by omega
        have h8 := AA_ht T hu hv e
        rw [← h7, q] at h8
        rw [h2] at h8
        unfold DD at *
        omega
      · rw [if_neg c2] at q
        have h4 : DD up hg u v - i ≤ ht up hg v := by unfold DD at *; omega
        have h1 := (it_P T _ v hv h4).2
        rw [q] at h1
        omega)
  omega
/-- a tree's tops when one edge is cut -/
theorem tp_cut (T : TR P up hg) {hg' : Nat → Bool} {x : Nat} (T' : TR P up hg') (hx : hg' x = false) (ho : ∀ v, P v → v ≠ x → hg' v = hg v) (gx : hg x = true) : ∀ (n v : Nat), P v → ht up hg v ≤ n → tp up hg' v = if cm up hg v x then x else tp up hg v := by
  intro n
  induction n with
  | zero =>
    intro v hv hn
    have g : ¬ hg v = true := fun g => by have := ht_hg T hv g; omega
    have n1 : v ≠ x := fun e => g (e ▸ gx)
    have c : ¬ cm up hg v x := fun c => by
      have h1 := c.1
      have h2 := c.2
      rw [show ht up hg v - ht up hg x = 0 by omega] at h2
      exact n1 h2
    rw [if_neg c, tp_no g, tp_no (by rw [ho v hv n1]; exact g)]
  | succ n ih =>
    intro v hv hn
    by_cases e : v = x
    · subst e
      rw [if_pos (cm_refl v), tp_no (by rw [hx]; simp)]
    · by_cases g : hg v = true
      · have h1 := T.2.1 v hv g
        have h2 := ht_hg T hv g
        rw [← tp_up T' hv (by rw [ho v hv e]; exact g), ih (up v) h1 (by omega), tp_up T hv g]
        have h3 : cm up hg (up v) x ↔ cm up hg v x := by
          constructor
          · intro c
            exact cm_trans T hv (cm_up T hv (cm_refl v) g) c
          · intro c
            have h4 := c.1
            have h5 := c.2
            have h6 : ht up hg x < ht up hg v := by
              rcases Nat.lt_or_ge (ht up hg x) (ht up hg v) with q | q
              · exact q
              · rw [show ht up hg v - ht up hg x = 0 by omega] at h5
                exact absurd h5 e
            refine ⟨by omega, ?_⟩
            rw [show ht up hg v - ht up hg x = (ht up hg (up v) - ht up hg x) + 1 by omega] at h5
            exact h5
        by_cases c : cm up hg v x
        · rw [if_pos c, if_pos (h3.mpr c)]
        · rw [if_neg c, if_neg (fun q => c (h3.mp q))]
      · have c : ¬ cm up hg v x := fun c => by
          have h4 := c.1
          have h5 := c.2
          rw [ht_no g] at h4 h5
          rw [show 0 - ht up hg x = 0 by omega] at h5
          exact e h5
        rw [if_neg c, tp_no g, tp_no (by rw [ho v hv e]; exact g)]
/-- and when one is joined -/
theorem tp_join (T : TR P up hg) {hg' : Nat → Bool} {x : Nat} (T' : TR P up hg') {r : Nat → Nat} (hr : ∀ v, P v → hg' v = true → r (up v) < r v) (hx : hg' x = true) (ho : ∀ v, P v → v ≠ x → hg' v = hg v) (gx : ¬ hg x = true) (hgg : ∀ v, P v → hg v = true → hg' v = true) (Px : P x) : ∀ (n v : Nat), P v → r v ≤ n → (r (tp up hg v) ≤ r v) ∧ tp up hg' v = if tp up hg v = x then tp up hg (up x) else tp up hg v := by
  have key : ∀ (n v : Nat), P v → r v ≤ n → r (tp up hg v) ≤ r v := by
    intro n
    induction n with
    | zero =>
      intro v hv hn
      have g : ¬ hg v = true := fun g => by have := hr v hv (hgg v hv g); omega
      rw [tp_no g]
      exact Nat.le_refl _
    | succ n ih =>
      intro v hv hn
      by_cases g : hg v = true
      · have h1 := hr v hv (hgg v hv g)
        have h2 := ih (up v) (T.2.1 v hv g) (by omega)
        rw [tp_up T hv g] at h2
        omega
      · rw [tp_no g]
        exact Nat.le_refl _
  intro n
  induction n with
  | zero =>
    intro v hv hn
    refine ⟨key 0 v hv hn, ?_⟩
    have g : ¬ hg' v = true := fun g => by have := hr v hv g; omega
    have n1 : v ≠ x := fun e => g (e ▸ hx)
    have g2 : ¬ hg v = true := by rw [← ho v hv n1]; exact g
    rw [tp_no g, tp_no g2, if_neg n1]
  | succ n ih =>
    intro v hv hn
    refine ⟨key (n + 1) v hv hn, ?_⟩
    by_cases e : v = x
    · subst e
      have h1 := hr v hv hx
      have h2 := T'.2.1 v hv hx
      obtain ⟨-, h4⟩ := ih (up v) h2 (by omega)
      have h3 := key (r (up v)) (up v) h2 (Nat.le_refl _)
      rw [tp_no gx, if_pos rfl, ← tp_up T' hv hx, h4, if_neg (fun q => by rw [q] at h3; omega)]
    · by_cases g : hg v = true
      · have g' : hg' v = true := by rw [ho v hv e]; exact g
        have h1 := hr v hv g'
        have h2 := T.2.1 v hv g
        obtain ⟨-, h4⟩ := ih (up v) h2 (by omega)
        rw [← tp_up T' hv g', h4, tp_up T hv g]
      · rw [tp_no g, tp_no (by rw [ho v hv e]; exact g), if_neg e]
/-- what others see of a tree, by what they see of up and hangs -/
theorem tree_congr (T : TR P up hg) {up' : Nat → Nat} {hg' : Nat → Bool} (h1 : ∀ v, P v → hg' v = hg v) (h2 : ∀ v, P v → hg v = true → up' v = up v) : ∀ (n v : Nat), P v → ht up hg v ≤ n → ht up' hg' v = ht up hg v ∧ tp up' hg' v = tp up hg v ∧ ∀ k, k ≤ ht up hg v → itr up' k v = itr up k v := by
  have hh : ∀ (m v : Nat), P v → hN up' hg' m v = hN up hg m v := by
    intro m
    induction m with
    | zero => intro v _; rfl
    | succ m ih =>
      intro v hv
      rw [hN, hN, h1 v hv]
      by_cases g : hg v = true
      · rw [if_pos g, if_pos g, h2 v hv g, ih _ (T.2.1 v hv g)]
      · rw [if_neg g, if_neg g]
  have hi : ∀ (k v : Nat), P v → k ≤ ht up hg v → itr up' k v = itr up k v := by
    intro k
    induction k with
    | zero => intro v _ _; rfl
    | succ k ih =>
      intro v hv hk
      have g := hg_of T (v := v) (by omega)
      have e := ht_hg T hv g
      show itr up' k (up' v) = itr up k (up v)
      rw [h2 v hv g, ih _ (T.2.1 v hv g) (by omega)]
  intro n v hv _
  have e := hh 24 v hv
  refine ⟨e, ?_, fun k hk => hi k v hv hk⟩
  show itr up' (hN up' hg' 24 v) v = itr up (ht up hg v) v
  rw [e]
  exact hi _ v hv (Nat.le_refl _)
end WAYS
