/-! PURE PART. what holds between the class and the reference -/
def BN (n : Nat) (s : Nat → Int32) : Prop := ∀ v, rP s v → ∃ k, k ≤ 50 * n ∧ s (13 * v + 4) = nI k
/-- the settings are in their ranges -/
def G3 (s : Nat → Int32) : Prop := (s 312 = 0 ∨ s 312 = 1 ∨ s 312 = 2) ∧ ∃ m, 1 ≤ m ∧ m ≤ 30 ∧ s 313 = nI m
def FL (s : Nat → Int32) : Prop := (∀ v, 0 < v → rP s v → s (13 * v + 2) = 0 ∨ s (13 * v + 2) = 1) ∧ (∀ v, rP s v → ∃ w, rR s w ∧ rT s w = rT s v) ∧ (∀ w w', rR s w → rR s w' → rT s w = rT s w' → w = w') ∧ G3 s ∧ s 1 = -5
def OKS (N : CS) (s : Nat → Int32) (n : Nat) : Prop := SH s ∧ FL s ∧ RS N s ∧ BN n s
def rowH (f : Nat → Int32) (i : Nat) : Nat → Int32 := fun j => f (318 * i + j)
def RELH (Q : HS) (S : CS) (n : Nat) : Prop := ∃ k, k ≤ 4 ∧ Q.1.1 = nI k ∧ S.1 3 = nI k ∧ okH Q ∧ (∀ i j, i < 4 → j < 4 → Q.1.2 i = Q.1.2 j → i = j) ∧ ∀ i, i < k → OKS (Q.2 (Q.1.2 i)) (rowH (S.2 2) i) n
def RELP (M P S : CS) (n : Nat) : Prop := (M.1 3 = 0 ∧ S.1 5 = 0) ∨ (M.1 3 ≠ 0 ∧ S.1 5 ≠ 0 ∧ OKS P (S.2 4) n)
def RELS (M S : CS) : Prop := (M.1 7 = 0 ∧ S.1 8 = -5) ∨ (M.1 7 ≠ 0 ∧ S.1 8 ≠ -5 ∧ M.1 8 = S.1 8 ∧ M.1 9 = S.1 9)
def RELT (O S : CS) : Prop := ∃ L, L ≤ 80 ∧ O.1 1 = nI L ∧ S.1 7 = nI L ∧ ∀ i, i < L → O.2 0 i = S.2 6 i ∧ ∃ c, c < 65536 ∧ S.2 6 i = nI c
def REL (M : CS) (N : CS) (F : CS) (P : CS) (Q : HS) (E : CS) (O : CS) (S : CS) (n : Nat) : Prop := OKS N (S.2 0) n ∧ RELH Q S n ∧ RELP M P S n ∧ RELS M S ∧ RELT O S
theorem OKS.mono {N : CS} {s : Nat → Int32} {n m : Nat} (h : OKS N s n) (hm : n ≤ m) : OKS N s m := ⟨h.1, h.2.1, h.2.2.1, fun v hv => by
  obtain ⟨k, h1, h2⟩ := h.2.2.2 v hv
  exact ⟨k, Nat.le_trans h1 (Nat.mul_le_mul_left 50 hm), h2⟩⟩
theorem RELH.mono {Q : HS} {S : CS} {n m : Nat} (h : RELH Q S n) (hm : n ≤ m) : RELH Q S m := by
  obtain ⟨k, a, b, c, d, e, f⟩ := h
  exact ⟨k, a, b, c, d, e, fun i hi => (f i hi).mono hm⟩
theorem RELP.mono {M P S : CS} {n m : Nat} (h : RELP M P S n) (hm : n ≤ m) : RELP M P S m := by
  rcases h with h | ⟨a, b, c⟩
  · exact Or.inl h
  · exact Or.inr ⟨a, b, c.mono hm⟩
theorem rel_mono {M : CS} {N : CS} {F : CS} {P : CS} {Q : HS} {E : CS} {O : CS} {S : CS} {n : Nat} (h : REL M N F P Q E O S n) : REL M N F P Q E O S (n + 1) := ⟨h.1.mono (Nat.le_succ n), h.2.1.mono (Nat.le_succ n), h.2.2.1.mono (Nat.le_succ n), h.2.2.2⟩
/-- nothing of the relation hangs on E, F, or on what a way writes -/
theorem rel_sw {M : CS} {N : CS} {F : CS} {P : CS} {Q : HS} {E E' : CS} {O : CS} {S Z : CS} {n : Nat} (h : REL M N F P Q E O S n) (w : sw S Z) : REL M N F P Q E' O Z n := by
  obtain ⟨h1, h2, h3, h4, h5⟩ := h
  have e : ∀ j, j ≠ 11 → j ≠ 12 → Z.1 j = S.1 j := w.1
  have f : ∀ j, j ≠ 10 → Z.2 j = S.2 j := w.2
  refine ⟨by rw [f 0 (by decide)]; exact h1, ?_, ?_, ?_, ?_⟩
  · obtain ⟨k, a, b, c, d⟩ := h2
    exact ⟨k, a, b, by rw [e 3 (by decide) (by decide)]; exact c, by rw [f 2 (by decide)]; exact d⟩
  · unfold RELP at *
    rw [e 5 (by decide) (by decide), f 4 (by decide)]
    exact h3
  · unfold RELS at *
    rw [e 8 (by decide) (by decide), e 9 (by decide) (by decide)]
    exact h4
  · unfold RELT at *
    rw [e 7 (by decide) (by decide), f 6 (by decide)]
    exact h5
theorem sim_stopped (M : CS) (N : CS) (F : CS) (P : CS) (Q : HS) (E : CS) (O : CS) (S : CS) (n : Nat) (a1 : Int32) (h : REL M N F P Q E O S n) (hn : n < 512) : True ∧ True ∧ (f_X6_stopped M a1) = (f_X7_stopped S a1) ∧ REL M N F P Q E O S (n + 1) := by
  refine ⟨trivial, trivial, ?_, rel_mono h⟩
  obtain ⟨-, -, -, h4, -⟩ := h
  unfold f_X6_stopped f_X7_stopped
  by_cases c0 : a1 = 0
  · subst c0
    rw [if_pos (show (0 : Int32) = 0 from rfl), if_pos (show f_X7_in 0 0 1 = true by decide), if_pos (show (0 : Int32) = 0 from rfl)]
    rcases h4 with ⟨p, q⟩ | ⟨p, q, r, t⟩
    · rw [if_pos p, if_pos q]
    · rw [if_neg p, if_neg q, r]
  · by_cases c1 : a1 = 1
    · subst c1
      rw [if_neg c0, if_pos (show (1 : Int32) = 1 from rfl), if_pos (show f_X7_in 1 0 1 = true by decide), if_neg c0]
      rcases h4 with ⟨p, q⟩ | ⟨p, q, r, t⟩
      · rw [if_pos p, if_pos q]
      · rw [if_neg p, if_neg q, t]
    · rw [if_neg c0, if_neg c1, if_neg]
      rw [in_spec]
      intro z
      have z := of_decide_eq_true z
      rcases pk_ix a1 (n := 2) (by decide) with w | w | ⟨j, hj, w⟩
      · exact z.1 w
      · refine z.2 ?_
        rw [Int32.lt_iff_toInt_lt]
        rw [Int32.le_iff_toInt_le, nI_toInt (by decide)] at w
        have : (1 : Int32).toInt = 1 := by decide
        omega
      · rcases (show j = 0 ∨ j = 1 by omega) with rfl | rfl
        · exact c0 w
        · exact c1 w
theorem sim_type (M : CS) (N : CS) (F : CS) (P : CS) (Q : HS) (E : CS) (O : CS) (S : CS) (n : Nat) (a1 : Int32) (hch : vp_nar .char a1 = a1) (h : REL M N F P Q E O S n) (hn : n < 512) : True ∧ (o_X7_type S a1) ∧ (f_X6_type M O a1).1 = (f_X7_type S a1).1 ∧ REL M N F P Q E ((f_X6_type M O a1).2) ((f_X7_type S a1).2) (n + 1) := by
  obtain ⟨h1, h2, h3, h4, L, hL, t1, t2, t3⟩ := rel_mono h
  have hc : ∃ c, c < 65536 ∧ a1 = nI c := by
    rw [vp_nar_char] at hch
    have hl : a1.toUInt32.toUInt16.toNat < 65536 := UInt16.toNat_lt _
    refine ⟨a1.toUInt32.toUInt16.toNat, hl, hch.symm.trans (Int32.toBitVec_inj.mp (BitVec.eq_of_toNat_eq ?_))⟩
    rw [pk_tn (by omega)]
    show a1.toUInt32.toUInt16.toUInt32.toNat = _
    exact UInt16.toNat_toUInt32 _
  by_cases c : L = 80
  · subst c
    have e1 : f_X1_add O a1 = (false, O) := by
      unfold f_X1_add
      rw [t1, if_neg (by decide), if_neg (by decide)]
    have e2 : f_X7_type S a1 = (-3, S) := by
      unfold f_X7_type
      rw [t2, if_pos (by decide)]
    have e3 : f_X6_type M O a1 = (-3, O) := by
      unfold f_X6_type
      rw [e1]
      rfl
    rw [e2, e3]
    exact ⟨trivial, ⟨fun _ => trivial, fun q => absurd (by rw [t2]; decide) q⟩, rfl, h1, h2, h3, h4, 80, by decide, t1, t2, t3⟩
  · have q : ¬ nI L = 80 := fun q => c ((nI_eq (by omega) (by decide)).mp (q.trans (show (80 : Int32) = nI 80 from rfl)))
    have e : nI L + 1 = nI (L + 1) := nI_1 L
    have e1 : f_X1_add O a1 = (true, setI (setF O 0 (upd (O.2 0) L a1)) 1 (nI (L + 1))) := by
      unfold f_X1_add
      rw [t1, if_neg (nI_pos (by omega)), if_pos (show nI L < 80 from nI_lt (show L < 80 by omega) (by decide)), nI_clamp (by omega)]
      simp only [bind1]
      rw [setF_1, t1, e]
    have e2 : f_X7_type S a1 = (nI (L + 1), setI (setF S 6 (upd (S.2 6) L a1)) 7 (nI (L + 1))) := by
      unfold f_X7_type
      rw [t2, if_neg q, nI_clamp (by omega)]
      simp only [bind1]
      rw [setI_s, setF_1, t2, e]
    have e3 : f_X6_type M O a1 = (nI (L + 1), setI (setF O 0 (upd (O.2 0) L a1)) 1 (nI (L + 1))) := by
      unfold f_X6_type
      rw [e1]
      rfl
    rw [e2, e3]
    refine ⟨trivial, ⟨fun z => absurd (t2 ▸ z) q, fun _ => ⟨by rw [t2]; exact vp_in_nI (by omega) (by decide), trivial⟩⟩, rfl, h1, h2, h3, h4, L + 1, by omega, rfl, rfl, ?_⟩
    intro i hi
    show upd (O.2 0) L a1 i = upd (S.2 6) L a1 i ∧ ∃ c, c < 65536 ∧ upd (S.2 6) L a1 i = nI c
    by_cases z : i = L
    · subst z
      rw [pk_us, pk_us]
      exact ⟨rfl, hc⟩
    · rw [pk_un z, pk_un z]
      exact t3 i (by omega)
theorem sim_clearText (M : CS) (N : CS) (F : CS) (P : CS) (Q : HS) (E : CS) (O : CS) (S : CS) (n : Nat) (h : REL M N F P Q E O S n) (hn : n < 512) : True ∧ True ∧ (f_X6_clearText M O).1 = (f_X7_clearText S).1 ∧ REL M N F P Q E ((f_X6_clearText M O).2) ((f_X7_clearText S).2) (n + 1) := by
  obtain ⟨h1, h2, h3, h4, L, hL, t1, t2, t3⟩ := rel_mono h
  refine ⟨trivial, trivial, ?_, h1, h2, h3, h4, 0, by decide, rfl, rfl, fun i hi => absurd hi (Nat.not_lt_zero _)⟩
  show O.1 1 = S.1 7
  rw [t1, t2]
