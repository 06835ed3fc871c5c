/-! PURE PART. counts -/
section CNT
variable {N : CS} {s : Nat → Int32} {n : Nat}
theorem pB_if {s : Nat → Int32} {i : Nat} (q : i < 24) : (pB s i = true) ↔ s (13 * i) = 1 := by
  unfold pB
  simp [q]
theorem trees_c (R : RS N s) : f_X5_trees N = nI (cntB (tB s) 24) := by
  unfold f_X5_trees
  rw [bitCount_bt (fun i h1 h2 => by rw [R.2.2.1 i h2]; unfold tB pB; simp; omega)]
  exact congrArg nI (cntB_congr (fun i hi => R.2.2.1 i (by omega)))
end CNT
/-! PURE PART. room, ifCut -/
def SM (f : Nat → Nat) : Nat → Nat
  | 0 => 0
  | n + 1 => SM f n + f n
def kw (s : Nat → Int32) (i : Nat) : Nat := if (pB s i && rH s i) = true then 1 + 2 * rW s i else 0
def gw (s : Nat → Int32) (i : Nat) : Nat := (if tB s i = true then 8 else 0) + kw s i
theorem SM_gw (s : Nat → Int32) : ∀ n, SM (gw s) n = 8 * cntB (tB s) n + SM (kw s) n
  | 0 => rfl
  | n + 1 => by
    have e := SM_gw s n
    show SM (gw s) n + ((if tB s n = true then 8 else 0) + kw s n) = 8 * (cntB (tB s) n + if tB s n = true then 1 else 0) + (SM (kw s) n + kw s n)
    rw [e]
    by_cases c : tB s n = true
    · rw [if_pos c, if_pos c]; omega
    · rw [if_neg c, if_neg c]; omega
section ROOM
variable {N : CS} {s : Nat → Int32} {n : Nat}
theorem room6 (h : OKS N s n) : f_X5_room N = nI (SM (gw s) 24) := by
  have R := h.2.2.1
  have key : ∀ (T m i : Nat), i ≤ 24 → i + m = 25 → l_X5_room_10 N m (nI (T + SM (kw s) i)) i = nI (T + SM (kw s) 24) := by
    intro T m
    induction m with
    | zero => intro i h1 h2; omega
    | succ m ih =>
      intro i h1 h2
      rw [l_X5_room_10]
      by_cases q : i < 24
      · have k := ih (i + 1) (by omega) (by omega)
        rw [show SM (kw s) (i + 1) = SM (kw s) i + kw s i from rfl] at k
        rw [if_pos q, kept_b R q]
        by_cases c : (pB s i && rH s i) = true
        · have c1 := pB_iff.mp (Bool.and_eq_true_iff.mp c).1
          have c2 := rH_pos (Bool.and_eq_true_iff.mp c).2
          rw [show kw s i = 1 + 2 * rW s i from if_pos c] at k
          have e : f_X5_roomOf N (nI i) = nI (1 + 2 * rW s i) := by
            unfold f_X5_roomOf
            rw [difc_n R c1 c2.1, show (2 : Int32) = nI 2 from rfl, pk_mul]
            exact nI_add 1 _
          rw [if_pos c, e, nI_add, Nat.add_assoc]
          exact k
        · rw [show kw s i = 0 from if_neg c] at k
          rw [if_neg c]
          exact k
      · have : i = 24 := by omega
        subst this
        rw [if_neg q]
        rfl
  have k := key (8 * cntB (tB s) 24) 24 1 (by decide) (by decide)
  have e0 : SM (kw s) 1 = 0 := by
    show 0 + kw s 0 = 0
    have : rH s 0 = false := by unfold rH; simp
    unfold kw
    rw [this, if_neg (by simp)]
  rw [e0] at k
  unfold f_X5_room
  rw [trees_c R, show (8 : Int32) = nI 8 from rfl, pk_mul, SM_gw]
  exact k
end ROOM
section CNTC
variable {N : CS} {s : Nat → Int32} {n : Nat}
theorem many_c (R : RS N s) : f_X5_howMany N = nI (cntB (pB s) 24) := by
  unfold f_X5_howMany
  rw [bitCount_bt (fun i h1 h2 => by rw [R.1 i h2]; unfold pB; simp; omega)]
  exact congrArg nI (cntB_congr (fun i hi => R.1 i (by omega)))
theorem ifc_c (h : OKS N s n) {v : Nat} (hv : rP s v) (v0 : 0 < v) (M : CS) : f_X6_ifCut M N (nI v) = if rH s v = true then nI (SM (gw s) 24) + (7 - nI (2 * rW s v)) else nI (SM (gw s) 24) - (7 - nI (2 * rW s v)) := by
  have R := h.2.2.1
  have v24 := hv.1
  have w8 : rW s v < 9 := by
    have : rW s v ≤ 8 := uc_le _ _ _
    omega
  have e9 : (8 : Int32) - (1 + 2 * nI (rW s v)) = 7 - nI (2 * rW s v) := by
    have : ∀ x : Fin 9, (8 : Int32) - (1 + 2 * nI x.1) = 7 - nI (2 * x.1) := by decide +kernel
    exact this ⟨_, w8⟩
  have er : f_X5_roomOf N (nI v) = 1 + 2 * nI (rW s v) := by
    unfold f_X5_roomOf
    rw [difc_n R hv v0]
  unfold f_X6_ifCut
  rw [has_P R hv, if_pos rfl, if_neg (fun q => by have := (nI_eq (b := 0) (by omega) (by decide)).mp q; omega), kept_n R hv, er, e9, room6 h]
def nB (s : Nat → Int32) (i : Nat) : Bool := pB s i && decide (s (13 * i + 4) = 0)
def cB (s : Nat → Int32) (i : Nat) : Bool := pB s i && (decide (0 < i) && decide (s (13 * i + 2) = 0))
theorem never_c (R : RS N s) : f_X5_neverAsked N = nI (cntB (nB s) 24) := by
  have key : ∀ (m i : Nat), i ≤ 24 → i + m = 25 → l_X5_neverAsked_4 N m (cntB (nB s) i) i = nI (cntB (nB s) 24) := by
    intro m
    induction m with
    | zero => intro i h1 h2; omega
    | succ m ih =>
      intro i h1 h2
      rw [l_X5_neverAsked_4]
      by_cases q : i < 24
      · have k := ih (i + 1) (by omega) (by omega)
        rw [cntB] at k
        rw [if_pos q, has_n R q]
        by_cases c : pB s i = true
        · rw [if_pos c, asked_n R (pB_iff.mp c)]
          by_cases d : s (13 * i + 4) = 0
          · rw [if_pos (show nB s i = true by unfold nB; simp [c, d])] at k
            rw [if_pos d]; exact k
          · rw [if_neg (show ¬ nB s i = true by unfold nB; simp [d])] at k
            rw [if_neg d]; exact k
        · rw [if_neg (show ¬ nB s i = true from fun k => c (Bool.and_eq_true_iff.mp k).1)] at k
          rw [if_neg c]; exact k
      · have : i = 24 := by omega
        subst this
        rw [if_neg q]
        rfl
  exact key 25 0 (by decide) (by decide)
theorem cuts_c (h : OKS N s n) : f_X5_cuts N = nI (cntB (cB s) 24) := by
  obtain ⟨W, L, R, -⟩ := h
  have b : ∀ i, i < 32 → bt ((N.1 0 &&& (N.1 1 ^^^ (-1))) &&& (f_X4_of 0 ^^^ (-1))) i = cB s i := by
    intro i hi
    rw [bt_and, bt_and, bt_not hi, bt_not hi, show (0 : Int32) = nI 0 from rfl, bt_of (by decide) hi, R.1 i hi, R.2.1 i hi]
    unfold cB
    by_cases c : pB s i = true
    · have hp := pB_iff.mp c
      rw [c]
      by_cases g : 0 < i
      · unfold rH
        rcases L.1 i g hp with d | d
        · simp [d, g]; omega
        · simp [d, g]
      · have : i = 0 := by omega
        subst this
        simp
    · have c' : pB s i = false := by simpa using c
      rw [c']
      rfl
  unfold f_X5_cuts
  simp only [bind1]
  rw [bitCount_bt (fun i h1 h2 => by rw [b i h2]; unfold cB pB; simp; omega)]
  exact congrArg nI (cntB_congr (fun i hi => b i (by omega)))
end CNTC
/-! PURE PART. the longest way -/
def MXP (s : Nat → Int32) (p : Nat → Nat → Prop) (r : Nat) : Prop := r ≤ 23 ∧ (∀ w u, rR s w → inT s w u → p w u → yD s u w ≤ r) ∧ (r = 0 ∨ ∃ w u, rR s w ∧ inT s w u ∧ p w u ∧ yD s u w = r)
theorem MXP.uniq {s : Nat → Int32} {p q : Nat → Nat → Prop} (hp : ∀ w u, rR s w → inT s w u → (p w u ↔ q w u)) {a b : Nat} (h1 : MXP s p a) (h2 : MXP s q b) : a = b := by
  have k1 : a ≤ b := by
    rcases h1.2.2 with z | ⟨w, u, x1, x2, x3, x4⟩
    · omega
    · have := h2.2.1 w u x1 x2 ((hp w u x1 x2).mp x3); omega
  have k2 : b ≤ a := by
    rcases h2.2.2 with z | ⟨w, u, x1, x2, x3, x4⟩
    · omega
    · have := h1.2.1 w u x1 x2 ((hp w u x1 x2).mpr x3); omega
  omega
theorem imax_n {a b : Nat} (ha : a < 2 ^ 31) (hb : b < 2 ^ 31) : imax (nI a) (nI b) = nI (if a < b then b else a) := by
  unfold imax
  by_cases c : a < b
  · rw [if_pos c, if_pos ((nI_ltI ha hb).mpr c)]
  · rw [if_neg c, if_neg (fun z => c ((nI_ltI ha hb).mp z))]
section LONG
variable {N : CS} {s : Nat → Int32} {n : Nat}
theorem far_n {s : Nat → Int32} (W : SH s) {v : Nat} (hv : rP s v) {E : CS} (hE : SPR s v E) : ∃ r, r ≤ 23 ∧ f_X2_farthest E = nI r ∧ (∀ u, inT s v u → yD s u v ≤ r) ∧ (r = 0 ∨ ∃ u, inT s v u ∧ yD s u v = r) := by
  have key : ∀ (m i r : Nat), i ≤ 24 → i + m = 25 → r ≤ 23 → (∀ u, u < i → inT s v u → yD s u v ≤ r) → (r = 0 ∨ ∃ u, inT s v u ∧ yD s u v = r) → ∃ r', r' ≤ 23 ∧ l_X2_farthest_4 E m (nI r) i = nI r' ∧ (∀ u, inT s v u → yD s u v ≤ r') ∧ (r' = 0 ∨ ∃ u, inT s v u ∧ yD s u v = r') := by
    intro m
    induction m with
    | zero => intro i r h1 h2; omega
    | succ m ih =>
      intro i r h1 h2 h3 h4 h5
      rw [l_X2_farthest_4]
      by_cases q : i < 24
      · rw [if_pos q, isIn_nI q]
        by_cases c : inT s v i
        · have dl : yD s i v ≤ 23 := DD_le W.tr c.1 hv c.2
          rw [if_pos ((hE.1 i (by omega)).mpr c), (steps_n hE c).1, imax_n (by omega) (by omega)]
          refine ih (i + 1) _ (by omega) (by omega) (by split <;> omega) (fun u hu hc => ?_) ?_
          · by_cases z : u = i
            · subst z; split <;> omega
            · have := h4 u (by omega) hc; split <;> omega
          · split
            · exact Or.inr ⟨i, c, rfl⟩
            · exact h5
        · rw [if_neg (fun z => c ((hE.1 i (by omega)).mp z))]
          refine ih (i + 1) r (by omega) (by omega) h3 (fun u hu hc => ?_) h5
          by_cases z : u = i
          · subst z; exact absurd hc c
          · exact h4 u (by omega) hc
      · have : i = 24 := by omega
        subst this
        rw [if_neg q]
        exact ⟨r, h3, rfl, fun u hu => h4 u hu.1.1 hu, h5⟩
  exact key 25 0 0 (by decide) (by decide) (by decide) (fun u hu => absurd hu (Nat.not_lt_zero _)) (Or.inl rfl)
theorem long6 (h : OKS N s n) (E : CS) (M : CS) : ∃ r, (f_X6_longestWay M N E).1 = nI r ∧ MXP s (fun _ _ => True) r := by
  obtain ⟨W, L, R, -⟩ := h
  have key : ∀ (m i r : Nat) (E : CS), i ≤ 24 → i + m = 25 → MXP s (fun w _ => w < i) r → ∃ r', (l_X6_longestWay_4 N m E (nI r) i).1 = nI r' ∧ MXP s (fun _ _ => True) r' := by
    intro m
    induction m with
    | zero => intro i r E h1 h2; omega
    | succ m ih =>
      intro i r E h1 h2 h3
      rw [l_X6_longestWay_4]
      simp only [bind1]
      by_cases q : i < 24
      · rw [if_pos q, isroot_n R q]
        by_cases c : tB s i = true
        · have hi := tB_iff.mp c
          obtain ⟨f, f1, f2, f3, f4⟩ := far_n W hi.1 (spread_n W R hi.1 E)
          have r23 := h3.1
          rw [if_pos c, f2, imax_n (by omega) (by omega)]
          refine ih (i + 1) _ _ (by omega) (by omega) ⟨by split <;> omega, fun w u hw hu hp => ?_, ?_⟩
          · have hp : w < i + 1 := hp
            by_cases z : w = i
            · subst z
              have := f3 u hu
              split <;> omega
            · have := h3.2.1 w u hw hu (show w < i by omega)
              split <;> omega
          · split
            · rcases f4 with z | ⟨u, u1, u2⟩
              · omega
              · exact Or.inr ⟨i, u, hi, u1, Nat.lt_succ_self i, u2⟩
            · rcases h3.2.2 with z | ⟨w, u, x1, x2, x3, x4⟩
              · exact Or.inl z
              · exact Or.inr ⟨w, u, x1, x2, Nat.lt_succ_of_lt x3, x4⟩
        · rw [if_neg c]
          refine ih (i + 1) r _ (by omega) (by omega) ⟨h3.1, fun w u hw hu hp => ?_, ?_⟩
          · have hp : w < i + 1 := hp
            by_cases z : w = i
            · subst z; exact absurd (tB_iff.mpr hw) c
            · exact h3.2.1 w u hw hu (show w < i by omega)
          · rcases h3.2.2 with z | ⟨w, u, x1, x2, x3, x4⟩
            · exact Or.inl z
            · exact Or.inr ⟨w, u, x1, x2, Nat.lt_succ_of_lt x3, x4⟩
      · have : i = 24 := by omega
        subst this
        rw [if_neg q]
        refine ⟨r, rfl, h3.1, fun w u hw hu _ => h3.2.1 w u hw hu hw.1.1, ?_⟩
        rcases h3.2.2 with z | ⟨w, u, x1, x2, x3, x4⟩
        · exact Or.inl z
        · exact Or.inr ⟨w, u, x1, x2, trivial, x4⟩
  exact key 25 0 0 E (by decide) (by decide) ⟨by decide, fun w u _ _ hp => absurd hp (Nat.not_lt_zero _), Or.inl rfl⟩
end LONG
section CNTD
variable {N : CS} {s : Nat → Int32} {n : Nat} {M E O : CS} {Q : HS}
theorem cnt0 (h : OKS N s n) : f_X6_count M N Q E O 0 = (nI (cntB (pB s) 24), E) := by
  unfold f_X6_count
  rw [if_pos rfl, many_c h.2.2.1]
theorem cnt1 (h : OKS N s n) : f_X6_count M N Q E O 1 = (nI (cntB (tB s) 24), E) := by
  unfold f_X6_count
  rw [if_neg (by decide), if_pos rfl, trees_c h.2.2.1]
theorem cnt2 (h : OKS N s n) : f_X6_count M N Q E O 2 = (nI (SM (gw s) 24), E) := by
  unfold f_X6_count
  rw [if_neg (by decide), if_neg (by decide), if_pos rfl, room6 h]
theorem cnt3 (h : OKS N s n) : f_X6_count M N Q E O 3 = (s 314, E) := by
  unfold f_X6_count
  rw [if_neg (by decide), if_neg (by decide), if_neg (by decide), if_pos rfl, h.2.2.1.2.2.2.2.2.2 9 (by decide) (by decide)]
theorem cnt4 (h : OKS N s n) : f_X6_count M N Q E O 4 = (s 315, E) := by
  unfold f_X6_count
  rw [if_neg (by decide), if_neg (by decide), if_neg (by decide), if_neg (by decide), if_pos rfl, h.2.2.1.2.2.2.2.2.2 10 (by decide) (by decide)]
theorem cnt5 (h : OKS N s n) : f_X6_count M N Q E O 5 = (nI (cntB (nB s) 24), E) := by
  unfold f_X6_count
  rw [if_neg (by decide), if_neg (by decide), if_neg (by decide), if_neg (by decide), if_neg (by decide), if_pos rfl, never_c h.2.2.1]
theorem cnt6 (h : OKS N s n) : f_X6_count M N Q E O 6 = (nI (cntB (cB s) 24), E) := by
  unfold f_X6_count
  rw [if_neg (by decide), if_neg (by decide), if_neg (by decide), if_neg (by decide), if_neg (by decide), if_neg (by decide), if_pos rfl, cuts_c h]
theorem cnt7 (h : OKS N s n) : ∃ r, (f_X6_count M N Q E O 7).1 = nI r ∧ MXP s (fun _ _ => True) r := by
  obtain ⟨r, h1, h2⟩ := long6 h E M
  refine ⟨r, ?_, h2⟩
  unfold f_X6_count
  rw [if_neg (by decide), if_neg (by decide), if_neg (by decide), if_neg (by decide), if_neg (by decide), if_neg (by decide), if_neg (by decide), if_pos rfl]
  exact h1
theorem cnt8 (h : OKS N s n) : f_X6_count M N Q E O 8 = (s 316, E) := by
  unfold f_X6_count
  rw [if_neg (by decide), if_neg (by decide), if_neg (by decide), if_neg (by decide), if_neg (by decide), if_neg (by decide), if_neg (by decide), if_neg (by decide), if_pos rfl, h.2.2.1.2.2.2.2.2.2 11 (by decide) (by decide)]
theorem cnt9 (h : OKS N s n) : f_X6_count M N Q E O 9 = (s 317, E) := by
  unfold f_X6_count
  rw [if_neg (by decide), if_neg (by decide), if_neg (by decide), if_neg (by decide), if_neg (by decide), if_neg (by decide), if_neg (by decide), if_neg (by decide), if_neg (by decide), if_pos rfl, h.2.2.1.2.2.2.2.2.2 12 (by decide) (by decide)]
theorem cnt10 (h : OKS N s n) : f_X6_count M N Q E O 10 = (s 312, E) := by
  unfold f_X6_count
  rw [if_neg (by decide), if_neg (by decide), if_neg (by decide), if_neg (by decide), if_neg (by decide), if_neg (by decide), if_neg (by decide), if_neg (by decide), if_neg (by decide), if_neg (by decide), if_pos rfl, h.2.2.1.2.2.2.2.2.2 7 (by decide) (by decide)]
theorem cnt11 (h : OKS N s n) : f_X6_count M N Q E O 11 = (s 313, E) := by
  unfold f_X6_count
  rw [if_neg (by decide), if_neg (by decide), if_neg (by decide), if_neg (by decide), if_neg (by decide), if_neg (by decide), if_neg (by decide), if_neg (by decide), if_neg (by decide), if_neg (by decide), if_neg (by decide), if_pos rfl, h.2.2.1.2.2.2.2.2.2 8 (by decide) (by decide)]
end CNTD
