/-! PURE PART. ways, costs, the best root, the common source, counts, the room, in the row's words -/
/-! PURE PART. what is told of a version and of its way -/
section TELL
variable {N : CS} {s : Nat → Int32} {n : Nat}
theorem next_n {s : Nat → Int32} (W : SH s) {x v k : Nat} (hx : rP s x) (hv : rP s v) (e : rT s x = rT s v) (hk : k < yD s x v) : yP s x v k ≠ v ∧ yP s (yP s x v k) v 1 = yP s x v (k + 1) := by
  have T := W.tr
  obtain ⟨h1, h2⟩ := PP_P T hx hv e (Nat.le_of_lt hk)
  have ne : yP s x v k ≠ v := fun z => by
    have h3 := (wC_step W hx hv e hk).2
    rw [z, show yD s v v = 0 from (way_self (wt := rW s) T hv).1] at h3
    omega
  refine ⟨ne, ?_⟩
  rcases PP_step T hx hv e hk with ⟨c, -, h⟩ | ⟨c, -, g, h, c2⟩
  · rw [next_up W h1 hv h2 c]
    exact h.symm
  · have := next_down W hv g c2
    rw [h] at this
    exact this
theorem toward_n {s : Nat → Int32} (W : SH s) {x v k : Nat} (hx : rP s x) (hv : rP s v) (e : rT s x = rT s v) (hk : k ≤ yD s x v) {E : CS} (hE : SPR s v E) : f_X2_towardsStart E (nI x) (nI k) = nI (yP s x v k) := by
  have T := W.tr
  have dl : yD s x v ≤ 23 := DD_le T hx hv e
  have key : ∀ (m i : Nat), i ≤ k → 24 < i + m → l_X2_towardsStart_5 E (nI k) m (nI (yP s x v i)) i = nI (yP s x v k) := by
    intro m
    induction m with
    | zero => intro i h1 h2; omega
    | succ m ih =>
      intro i h1 h2
      have q : nI i < nI k ↔ i < k := nI_ltI (by omega) (by omega)
      rw [l_X2_towardsStart_5]
      by_cases c : i < k
      · obtain ⟨p1, p2⟩ := PP_P T hx hv e (k := i) (show i ≤ yD s x v by omega)
        obtain ⟨n1, n2⟩ := next_n W hx hv e (k := i) (show i < yD s x v by omega)
        have e3 : f_X3_at 24 (E.2 3) (nI (yP s x v i)) = nI (yP s x v (i + 1)) := by
          rw [at_n _ p1.1 (by decide), (hE.2.2 _ ⟨p1, p2⟩).2.2 n1, n2]
        rw [if_pos (q.mpr c), if_pos (show i < 24 by omega), e3]
        exact ih (i + 1) (by omega) (by omega)
      · rw [if_neg (fun z => c (q.mp z))]
        have : i = k := by omega
        subst this
        rfl
  have h0 := key 25 0 (Nat.zero_le _) (by decide)
  rw [show yP s x v 0 = x from PP_zero x v] at h0
  exact h0
end TELL
section WAYC
variable {N : CS} {s : Nat → Int32} {n : Nat}
theorem way_c (h : OKS N s n) {v w k : Nat} (hv : rP s v) (a : RO s v w) (hk : k < 2 ^ 31) (M E : CS) : (f_X6_way M N E (nI v) (nI k)).1 = if yD s w v < k then -5 else nI (yP s w v k) := by
  have W := h.1
  have dl : yD s w v ≤ 23 := DD_le W.tr a.1.1 hv a.2
  have hE := spread_n W h.2.2.1 hv E
  unfold f_X6_way
  rw [has_P h.2.2.1 hv, if_pos rfl, if_neg (nI_pos hk)]
  simp only [bind1]
  generalize f_X2_spread E N (nI v) = E' at hE
  rw [root_c h a hE, (steps_n hE ⟨a.1.1, a.2⟩).1]
  have q : nI (yD s w v) < nI k ↔ yD s w v < k := nI_ltI (by omega) hk
  by_cases d : yD s w v < k
  · rw [if_pos (q.mpr d), if_pos d]
  · rw [if_neg (fun z => d (q.mp z)), if_neg d, toward_n W a.1.1 hv a.2 (by omega) hE]
end WAYC
/-! PURE PART. common -/
theorem hz_iff {v : Nat} : hz v = true ↔ 0 < v := by unfold hz; simp
theorem tz_0 {s : Nat → Int32} (W : SH s) {v : Nat} (hv : rP s v) : tp (rU s) hz v = 0 := by
  have T := W.tz
  obtain ⟨h1, h2⟩ := tp_P T hv
  by_cases c : 0 < tp (rU s) hz v
  · have := ht_hg T h1 (hz_iff.mpr c)
    omega
  · omega
theorem anc_n {N : CS} {s : Nat → Int32} (W : SH s) (R : RS N s) {v : Nat} (hv : rP s v) : ∀ i, i < 24 → (bt (f_X5_ancestors N (nI v)) i = true ↔ cm (rU s) hz v i) := by
  have T := W.tz
  have hl := ht_le T hv
  have key : ∀ (n j : Nat) (x : Int32), j ≤ ht (rU s) hz v → j + n = 25 → (∀ i, i < 24 → (bt x i = true ↔ (i = 0 ∨ ∃ k, k ≤ j ∧ itr (rU s) k v = i))) → ∀ i, i < 24 → (bt (l_X5_ancestors_15 N n x (nI (itr (rU s) j v)) j) i = true ↔ cm (rU s) hz v i) := by
    intro n
    induction n with
    | zero => intro j x h1 h2; omega
    | succ n ih =>
      intro j x h1 h2 hx i hi
      obtain ⟨p1, p2⟩ := it_P T j v hv h1
      have t1 := p1.1
      have q : nI (itr (rU s) j v) = 0 ↔ itr (rU s) j v = 0 := nI_eq (b := 0) (by omega) (by decide)
      rw [l_X5_ancestors_15, if_pos (show j < 24 by omega)]
      by_cases c : itr (rU s) j v = 0
      · rw [if_pos (q.mpr c)]
        have e : j = ht (rU s) hz v := by
          have : ht (rU s) hz (itr (rU s) j v) = 0 := by rw [c]; exact ht_no (by decide)
          omega
        show bt x i = true ↔ _
        rw [hx i hi]
        constructor
        · rintro (rfl | ⟨k, k1, k2⟩)
          · rw [← tz_0 W hv]
            exact cm_top T hv
          · rw [← k2]
            exact cm_it T hv (by omega)
        · intro z
          exact Or.inr ⟨_, by omega, z.2⟩
      · rw [if_neg (fun z => c (q.mp z))]
        have g : 0 < itr (rU s) j v := by omega
        have hlt : j < ht (rU s) hz v := by
          have := ht_hg T p1 (hz_iff.mpr g)
          omega
        rw [src_s R p1 g, ← itr_succ (rU s)]
        have p3 := (it_P T (j + 1) v hv (by omega)).1.1
        refine ih (j + 1) _ (by omega) (by omega) (fun i hi => ?_) i hi
        rw [bt_or, bt_of (by omega) (by omega), Bool.or_eq_true, hx i hi, decide_eq_true_iff]
        constructor
        · rintro ((h | ⟨k, k1, k2⟩) | h)
          · exact Or.inl h
          · exact Or.inr ⟨k, by omega, k2⟩
          · exact Or.inr ⟨j + 1, Nat.le_refl _, h.symm⟩
        · rintro (h | ⟨k, k1, k2⟩)
          · exact Or.inl (Or.inl h)
          · by_cases z : k = j + 1
            · rw [z] at k2
              exact Or.inr k2.symm
            · exact Or.inl (Or.inr ⟨k, by omega, k2⟩)
  have hv24 := hv.1
  exact key 25 0 _ (Nat.zero_le _) (by decide) (fun i hi => by
    rw [bt_or, bt_of (by omega) (by omega), show (0 : Int32) = nI 0 from rfl, bt_of (by decide) (by omega), Bool.or_eq_true, decide_eq_true_iff, decide_eq_true_iff]
    constructor
    · rintro (h | h)
      · exact Or.inr ⟨0, Nat.le_refl _, h.symm⟩
      · exact Or.inl h
    · rintro (h | ⟨k, k1, k2⟩)
      · exact Or.inr h
      · have : k = 0 := by omega
        subst this
        exact Or.inl k2.symm)
section COMC
variable {N : CS} {s : Nat → Int32} {n : Nat}
/-- the nearest source of both -/
def cmn (s : Nat → Int32) (u v : Nat) : Nat := itr (rU s) (AA (rU s) hz u v) u
theorem com_c (h : OKS N s n) {u v : Nat} (hu : rP s u) (hv : rP s v) (M : CS) : f_X6_common M N (nI u) (nI v) = nI (cmn s u v) := by
  have R := h.2.2.1
  have W := h.1
  have T := W.tz
  have e : tp (rU s) hz u = tp (rU s) hz v := by rw [tz_0 W hu, tz_0 W hv]
  obtain ⟨a1, a2, a3⟩ := AA_spec T hu hv e
  have hl := ht_le T hu
  have key : ∀ (m j : Nat), j ≤ AA (rU s) hz u v → 24 < j + m → l_X6_common_39 N (nI v) m (nI (itr (rU s) j u)) j = nI (cmn s u v) := by
    intro m
    induction m with
    | zero => intro j h1 h2; omega
    | succ m ih =>
      intro j h1 h2
      obtain ⟨b1, b2⟩ := it_P T j u hu (by omega)
      have t1 := b1.1
      rw [l_X6_common_39, isIn_nI t1, if_pos (show j < 24 by omega)]
      by_cases c : cm (rU s) hz v (itr (rU s) j u)
      · have ej : j = AA (rU s) hz u v := by
          rcases Nat.lt_or_ge j (AA (rU s) hz u v) with z | z
          · exact absurd c (a3 j z)
          · omega
        rw [if_pos ((anc_n W R hv _ t1).mpr c), ej]
        rfl
      · have hj : j < AA (rU s) hz u v := by
          rcases Nat.lt_or_ge j (AA (rU s) hz u v) with z | z
          · exact z
          · have : j = AA (rU s) hz u v := by omega
            rw [this] at c
            exact absurd a2 c
        have g := hg_of T (v := itr (rU s) j u) (by omega)
        rw [if_neg (fun k => c ((anc_n W R hv _ t1).mp k)), src_s R b1 (hz_iff.mp g), ← itr_succ (rU s)]
        exact ih (j + 1) (by omega) (by omega)
  unfold f_X6_common
  rw [has_P R hu, has_P R hv, if_pos rfl, if_pos rfl]
  exact key 25 0 (Nat.zero_le _) (by decide)
end COMC
/-! PURE PART. costs -/
def csum (s : Nat → Int32) (v : Nat) : Nat → Int32
  | 0 => 0
  | i + 1 => csum s v i + (if iT s v i = true then s (13 * i + 4) * (1 + nI (yC s i v)) else 0)
section COST
variable {N : CS} {s : Nat → Int32} {n : Nat}
theorem cost6 (h : OKS N s n) {v : Nat} (hv : rP s v) {E : CS} (hE : SPR s v E) : l_X6_costFrom_16 N E 25 0 0 = (csum s v 24, E) := by
  have R := h.2.2.1
  have key : ∀ (m i : Nat), i ≤ 24 → i + m = 25 → l_X6_costFrom_16 N E m (csum s v i) i = (csum s v 24, E) := by
    intro m
    induction m with
    | zero => intro i h1 h2; omega
    | succ m ih =>
      intro i h1 h2
      rw [l_X6_costFrom_16]
      by_cases q : i < 24
      · have k := ih (i + 1) (by omega) (by omega)
        rw [csum] at k
        rw [if_pos q, isIn_nI q]
        by_cases c : inT s v i
        · rw [if_pos (iT_iff.mpr c)] at k
          rw [if_pos ((hE.1 i (by omega)).mpr c), asked_n R c.1, (steps_n hE c).2]
          exact k
        · rw [if_neg (fun z => c (iT_iff.mp z)), Int32.add_zero] at k
          rw [if_neg (fun z => c ((hE.1 i (by omega)).mp z))]
          exact k
      · have : i = 24 := by omega
        subst this
        rw [if_neg q]
        rfl
  exact key 25 0 (by decide) (by decide)
theorem cost6' (h : OKS N s n) {v : Nat} (hv : rP s v) (M E : CS) : (f_X6_costFrom M N E (nI v)).1 = csum s v 24 := by
  have hE := spread_n h.1 h.2.2.1 hv E
  show (l_X6_costFrom_16 N (f_X2_spread E N (nI v)) 25 0 0).1 = _
  rw [cost6 h hv hE]
theorem csum_le (h : OKS N s n) (hn : n ≤ 512) {v : Nat} (hv : rP s v) : ∀ i, i ≤ 24 → ∃ m, m ≤ i * 9446400 ∧ csum s v i = nI m := by
  intro i
  induction i with
  | zero => intro _; exact ⟨0, Nat.le_refl _, rfl⟩
  | succ i ih =>
    intro hi
    obtain ⟨m, m1, m2⟩ := ih (by omega)
    rw [csum, m2]
    by_cases c : iT s v i = true
    · have c' := iT_iff.mp c
      obtain ⟨k, k1, k2⟩ := h.2.2.2 i c'.1
      have w := wC_le h.1 c'.1 hv c'.2
      rw [if_pos c, k2, show (1 : Int32) + nI (yC s i v) = nI (1 + yC s i v) from nI_add 1 _, pk_mul, nI_add]
      refine ⟨_, ?_, rfl⟩
      have : k * (1 + yC s i v) ≤ 25600 * 369 := Nat.mul_le_mul (by omega) (by omega)
      omega
    · rw [if_neg c]
      exact ⟨m, Nat.le_trans m1 (Nat.mul_le_mul_right _ (Nat.le_succ i)), Int32.add_zero _⟩
end COST
/-! PURE PART. bestRoot -/
/-- b is the first of those that cost least -/
def BST (p : Nat → Bool) (c : Nat → Nat) (k b : Nat) : Prop := p b = true ∧ b < 24 ∧ ∀ j, j < k → p j = true → c b ≤ c j ∧ (c j = c b → b ≤ j)
theorem BST.uniq {p : Nat → Bool} {c : Nat → Nat} {a b : Nat} (h1 : BST p c 24 a) (h2 : BST p c 24 b) : a = b := by
  have h3 := h1.2.2 b h2.2.1 h2.1
  have h4 := h2.2.2 a h1.2.1 h1.1
  have h5 := h3.2 (by omega)
  have h6 := h4.2 (by omega)
  omega
section BEST
variable {N : CS} {s : Nat → Int32} {n : Nat}
theorem cost_fn (h : OKS N s n) (hn : n ≤ 512) : ∃ c : Nat → Nat, ∀ i, rP s i → c i ≤ 226713600 ∧ csum s i 24 = nI (c i) := by
  have k : ∀ i, ∃ m, rP s i → m ≤ 226713600 ∧ csum s i 24 = nI m := by
    intro i
    by_cases q : rP s i
    · obtain ⟨m, m1, m2⟩ := csum_le h hn q 24 (Nat.le_refl _)
      exact ⟨m, fun _ => ⟨by omega, m2⟩⟩
    · exact ⟨0, fun z => absurd z q⟩
  exact ⟨fun i => Classical.choose (k i), fun i => Classical.choose_spec (k i)⟩
theorem best6 (h : OKS N s n) (M : CS) {v : Nat} (hv : rP s v) {c : Nat → Nat} (hc : ∀ i, rP s i → c i ≤ 226713600 ∧ csum s i 24 = nI (c i)) {G : CS} (hG : SPR s v G) : ∀ (m i b : Nat) (E : CS), i ≤ 24 → i + m = 25 → BST (iT s v) c i b → c b ≤ c v → (c b = c v → b ≤ v) → ∃ b', BST (iT s v) c 24 b' ∧ (l_X6_bestRoot_45 M N G m E (nI b) (nI (c b)) i).1 = nI b' := by
  intro m
  induction m with
  | zero => intro i b E h1 h2; omega
  | succ m ih =>
    intro i b E h1 h2 hb hb1 hb2
    have b24 := hb.2.1
    have cb := (hc b (iT_iff.mp hb.1).1).1
    rw [l_X6_bestRoot_45]
    simp only [bind1]
    by_cases q : i < 24
    · rw [if_pos q, isIn_nI q]
      by_cases d : inT s v i
      · have ci := hc i d.1
        have e := cost6' h d.1 M E
        rw [ci.2] at e
        have y : nI (c i) < nI (c b) ↔ c i < c b := nI_ltI (by omega) (by omega)
        have y2 : nI (c i) = nI (c b) ↔ c i = c b := nI_eq (by omega) (by omega)
        have y3 : nI i < nI b ↔ i < b := nI_ltI (by omega) (by omega)
        have pi := iT_iff.mpr d
        rw [if_pos ((hG.1 i (by omega)).mpr d), e]
        by_cases l : c i < c b
        · rw [if_pos (y.mpr l)]
          exact ih (i + 1) i _ (by omega) (by omega) ⟨pi, q, fun j hj pj => by
            by_cases z : j = i
            · subst z; exact ⟨Nat.le_refl _, fun _ => Nat.le_refl _⟩
            · have := (hb.2.2 j (by omega) pj).1
              exact ⟨by omega, fun k => by omega⟩⟩ (by omega) (fun k => by omega)
        · rw [if_neg (fun z => l (y.mp z))]
          by_cases l2 : c i = c b
          · rw [if_pos (y2.mpr l2)]
            by_cases l3 : i < b
            · rw [if_pos (y3.mpr l3), l2, ← l2]
              exact ih (i + 1) i _ (by omega) (by omega) ⟨pi, q, fun j hj pj => by
                by_cases z : j = i
                · subst z; exact ⟨Nat.le_refl _, fun _ => Nat.le_refl _⟩
                · have k1 := hb.2.2 j (by omega) pj
                  exact ⟨by omega, fun k => by have := k1.2 (by omega); omega⟩⟩ (by omega) (fun k => by have := hb2 (by omega); omega)
            · rw [if_neg (fun z => l3 (y3.mp z))]
              exact ih (i + 1) b _ (by omega) (by omega) ⟨hb.1, b24, fun j hj pj => by
                by_cases z : j = i
                · subst z; exact ⟨by omega, fun _ => by omega⟩
                · exact hb.2.2 j (by omega) pj⟩ hb1 hb2
          · rw [if_neg (fun z => l2 (y2.mp z))]
            exact ih (i + 1) b _ (by omega) (by omega) ⟨hb.1, b24, fun j hj pj => by
              by_cases z : j = i
              · subst z; exact ⟨by omega, fun k => absurd k l2⟩
              · exact hb.2.2 j (by omega) pj⟩ hb1 hb2
      · rw [if_neg (fun z => d ((hG.1 i (by omega)).mp z))]
        exact ih (i + 1) b _ (by omega) (by omega) ⟨hb.1, b24, fun j hj pj => by
          by_cases z : j = i
          · subst z; exact absurd (iT_iff.mp pj) d
          · exact hb.2.2 j (by omega) pj⟩ hb1 hb2
    · have : i = 24 := by omega
      subst this
      rw [if_neg q]
      exact ⟨b, hb, rfl⟩
end BEST
section BSTC
variable {N : CS} {s : Nat → Int32} {n : Nat}
theorem ifr_c (h : OKS N s n) {v : Nat} (hv : rP s v) (M E : CS) : (f_X6_ifRoot M N E (nI v)).1 = csum s v 24 := by
  unfold f_X6_ifRoot
  rw [has_P h.2.2.1 hv, if_pos rfl]
  exact cost6' h hv M E
theorem best_c (h : OKS N s n) {v : Nat} (hv : rP s v) {c : Nat → Nat} (hc : ∀ i, rP s i → c i ≤ 226713600 ∧ csum s i 24 = nI (c i)) (M E : CS) : ∃ b, BST (iT s v) c 24 b ∧ (f_X6_bestRoot M N E (nI v)).1 = nI b := by
  have hE := spread_n h.1 h.2.2.1 hv E
  unfold f_X6_bestRoot
  rw [has_P h.2.2.1 hv, if_pos rfl]
  simp only [bind1]
  have e6 := cost6' h hv M (f_X2_spread E N (nI v))
  rw [(hc v hv).2] at e6
  obtain ⟨b6, hb6, e6'⟩ := best6 h M hv hc hE 25 0 v (f_X6_costFrom M N (f_X2_spread E N (nI v)) (nI v)).2 (by decide) (by decide) ⟨iT_iff.mpr ⟨hv, rfl⟩, hv.1, fun j hj => absurd hj (Nat.not_lt_zero _)⟩ (Nat.le_refl _) (fun _ => Nat.le_refl _)
  refine ⟨b6, hb6, ?_⟩
  rw [e6, e6']
end BSTC
