/-! PURE PART. room, ifCut -/
def SM (f : Nat → Nat) : Nat → Nat
  | 0 => 0
  | n + 1 => SM f n + f n
def kw (s : Nat → Int32) (i : Nat) : Nat := if (pB s i && rH s i) = true then 1 + 2 * rW s i else 0
def gw (s : Nat → Int32) (i : Nat) : Nat := (if tB s i = true then 8 else 0) + kw s i
theorem SM_gw (s : Nat → Int32) : ∀ n, SM (gw s) n = 8 * cntB (tB s) n + SM (kw s) n
  | 0 => rfl
  | n + 1 => by
    have e := SM_gw s n
    show SM (gw s) n + ((if tB s n = true then 8 else 0) + kw s n) = 8 * (cntB (tB s) n + if tB s n = true then 1 else 0) + (SM (kw s) n + kw s n)
    rw [e]
    by_cases c : tB s n = true
    · rw [if_pos c, if_pos c]; omega
    · rw [if_neg c, if_neg c]; omega
section ROOM
variable {N : CS} {S : CS} {n : Nat}
theorem room6 (h : OKS N (S.2 0) n) : f_X5_room N = nI (SM (gw (S.2 0)) 24) := by
  have R := h.2.2.1
  have key : ∀ (T m i : Nat), i ≤ 24 → i + m = 25 → l_X5_room_10 N m (nI (T + SM (kw (S.2 0)) i)) i = nI (T + SM (kw (S.2 0)) 24) := by
    intro T m
    induction m with
    | zero => intro i h1 h2; omega
    | succ m ih =>
      intro i h1 h2
      rw [l_X5_room_10]
      by_cases q : i < 24
      · have k := ih (i + 1) (by omega) (by omega)
        rw [show SM (kw (S.2 0)) (i + 1) = SM (kw (S.2 0)) i + kw (S.2 0) i from rfl] at k
        rw [if_pos q, kept_b R q]
        by_cases c : (pB (S.2 0) i && rH (S.2 0) i) = true
        · have c1 := pB_iff.mp (Bool.and_eq_true_iff.mp c).1
          have c2 := rH_pos (Bool.and_eq_true_iff.mp c).2
          rw [show kw (S.2 0) i = 1 + 2 * rW (S.2 0) i from if_pos c] at k
          have e : f_X5_roomOf N (nI i) = nI (1 + 2 * rW (S.2 0) i) := by
            unfold f_X5_roomOf
            rw [difc_n R c1 c2.1, show (2 : Int32) = nI 2 from rfl, pk_mul]
            exact nI_add 1 _
          rw [if_pos c, e, nI_add, Nat.add_assoc]
          exact k
        · rw [show kw (S.2 0) i = 0 from if_neg c] at k
          rw [if_neg c]
          exact k
      · have : i = 24 := by omega
        subst this
        rw [if_neg q]
        rfl
  have k := key (8 * cntB (tB (S.2 0)) 24) 24 1 (by decide) (by decide)
  have e0 : SM (kw (S.2 0)) 1 = 0 := by
    show 0 + kw (S.2 0) 0 = 0
    have : rH (S.2 0) 0 = false := by unfold rH; simp
    unfold kw
    rw [this, if_neg (by simp)]
  rw [e0] at k
  unfold f_X5_room
  rw [trees_c R, show (8 : Int32) = nI 8 from rfl, pk_mul, SM_gw]
  exact k
theorem room7 (h : OKS N (S.2 0) n) : o_X7_room S ∧ f_X7_room S = nI (SM (gw (S.2 0)) 24) := by
  have W := h.1
  have key : ∀ (m i : Nat), i ≤ 24 → i + m = 25 → ol_X7_room_4 S m (nI (SM (gw (S.2 0)) i)) i ∧ l_X7_room_4 S m (nI (SM (gw (S.2 0)) i)) i = nI (SM (gw (S.2 0)) 24) := by
    intro m
    induction m with
    | zero => intro i h1 h2; omega
    | succ m ih =>
      intro i h1 h2
      rw [ol_X7_room_4, l_X7_room_4]
      simp only [bind1]
      by_cases q : i < 24
      · obtain ⟨k1, k2⟩ := ih (i + 1) (by omega) (by omega)
        rw [show SM (gw (S.2 0)) (i + 1) = SM (gw (S.2 0)) i + ((if tB (S.2 0) i = true then 8 else 0) + kw (S.2 0) i) from rfl] at k1 k2
        obtain ⟨oh, eh⟩ := hangs_n (S := S) q
        rw [if_pos q, cl0 q, cl1 q, cl3 q, eh]
        by_cases c : S.2 0 (13 * i) = 1
        · have hi : rP (S.2 0) i := ⟨q, c⟩
          have pb := pB_iff.mpr hi
          have hs : rH (S.2 0) i = true → o_X7_unlikeCells S (nI i) (S.2 0 (13 * i + 1)) ∧ f_X7_unlikeCells S (nI i) (S.2 0 (13 * i + 1)) = nI (rW (S.2 0) i) := by
            intro g
            have g0 := (rH_pos g).1
            rw [src_n W hi g0]
            exact ucell_n q (W.2.2.1 i g0 hi).2.1
          have two : ∀ x : Nat, (1 : Int32) + 2 * nI x = nI (1 + 2 * x) := fun x => by
            rw [show (2 : Int32) = nI 2 from rfl, pk_mul]
            exact nI_add 1 _
          rw [if_pos c]
          by_cases d : S.2 0 (13 * i + 3) = 1
          · have t : tB (S.2 0) i = true := tB_iff.mpr ⟨hi, d⟩
            rw [if_pos t] at k1 k2
            rw [if_pos d]
            by_cases g : rH (S.2 0) i = true
            · obtain ⟨ou, eu⟩ := hs g
              have e : nI (SM (gw (S.2 0)) i) + 8 + (1 + 2 * nI (rW (S.2 0) i)) = nI (SM (gw (S.2 0)) i + (8 + (1 + 2 * rW (S.2 0) i))) := by
                rw [two, show (8 : Int32) = nI 8 from rfl, nI_add, nI_add, Nat.add_assoc]
              rw [show kw (S.2 0) i = 1 + 2 * rW (S.2 0) i from if_pos (by rw [pb, g]; rfl), ← e] at k1 k2
              rw [if_pos g, eu]
              exact ⟨⟨fun _ => ⟨vi0 q, fun _ => ⟨vi3 q, fun _ => ⟨vi0 q, oh, fun _ => ⟨vi1 q, ou, k1⟩, fun z => absurd g z⟩, fun z => absurd d z⟩, fun z => absurd c z⟩, fun z => absurd q z⟩, k2⟩
            · have e : nI (SM (gw (S.2 0)) i) + 8 + 0 = nI (SM (gw (S.2 0)) i + (8 + 0)) := by
                rw [show (8 : Int32) = nI 8 from rfl, nI_add, Int32.add_zero]
              rw [show kw (S.2 0) i = 0 from if_neg (by rw [pb]; simpa using g), ← e] at k1 k2
              rw [if_neg g]
              exact ⟨⟨fun _ => ⟨vi0 q, fun _ => ⟨vi3 q, fun _ => ⟨vi0 q, oh, fun z => absurd z g, fun _ => k1⟩, fun z => absurd d z⟩, fun z => absurd c z⟩, fun z => absurd q z⟩, k2⟩
          · have t : ¬ tB (S.2 0) i = true := fun k => d (tB_iff.mp k).2
            rw [if_neg t] at k1 k2
            rw [if_neg d]
            by_cases g : rH (S.2 0) i = true
            · obtain ⟨ou, eu⟩ := hs g
              have e : nI (SM (gw (S.2 0)) i) + 0 + (1 + 2 * nI (rW (S.2 0) i)) = nI (SM (gw (S.2 0)) i + (0 + (1 + 2 * rW (S.2 0) i))) := by
                rw [two, Int32.add_zero, nI_add, Nat.zero_add]
              rw [show kw (S.2 0) i = 1 + 2 * rW (S.2 0) i from if_pos (by rw [pb, g]; rfl), ← e] at k1 k2
              rw [if_pos g, eu]
              exact ⟨⟨fun _ => ⟨vi0 q, fun _ => ⟨vi3 q, fun z => absurd z d, fun _ => ⟨vi0 q, oh, fun _ => ⟨vi1 q, ou, k1⟩, fun z => absurd g z⟩⟩, fun z => absurd c z⟩, fun z => absurd q z⟩, k2⟩
            · have e : nI (SM (gw (S.2 0)) i) + 0 + 0 = nI (SM (gw (S.2 0)) i + (0 + 0)) := by
                rw [Int32.add_zero, Int32.add_zero]; rfl
              rw [show kw (S.2 0) i = 0 from if_neg (by rw [pb]; simpa using g), ← e] at k1 k2
              rw [if_neg g]
              exact ⟨⟨fun _ => ⟨vi0 q, fun _ => ⟨vi3 q, fun z => absurd z d, fun _ => ⟨vi0 q, oh, fun z => absurd z g, fun _ => k1⟩⟩, fun z => absurd c z⟩, fun z => absurd q z⟩, k2⟩
        · have t : ¬ tB (S.2 0) i = true := fun k => c (tB_iff.mp k).1.2
          have e : nI (SM (gw (S.2 0)) i) + 0 + 0 = nI (SM (gw (S.2 0)) i + (0 + 0)) := by
            rw [Int32.add_zero, Int32.add_zero]; rfl
          rw [if_neg t, show kw (S.2 0) i = 0 from if_neg (fun k => c (pB_iff.mp (Bool.and_eq_true_iff.mp k).1).2), ← e] at k1 k2
          rw [if_neg c]
          exact ⟨⟨fun _ => ⟨vi0 q, fun z => absurd z c, fun _ => ⟨vi0 q, k1⟩⟩, fun z => absurd q z⟩, k2⟩
      · have : i = 24 := by omega
        subst this
        rw [if_neg q]
        exact ⟨⟨fun z => absurd z q, fun _ => trivial⟩, rfl⟩
  exact key 25 0 (by decide) (by decide)
end ROOM
theorem sim_ifCut (M : CS) (N : CS) (F : CS) (P : CS) (Q : HS) (E : CS) (O : CS) (S : CS) (n : Nat) (a1 : Int32) (h : REL M N F P Q E O S n) (hn : n < 512) : True ∧ (o_X7_ifCut S a1) ∧ (f_X6_ifCut M N a1) = (f_X7_ifCut S a1) ∧ REL M N F P Q E O S (n + 1) := by
  have K := h.1
  have R := K.2.2.1
  have W := K.1
  refine ⟨trivial, ?_⟩
  unfold o_X7_ifCut f_X6_ifCut f_X7_ifCut
  rcases ver_c K a1 with ⟨q1, q2, q3⟩ | ⟨v, hv, rfl, q1, q2, q3⟩
  · rw [q1, q3]
    exact ⟨⟨q2, fun k => (by cases k), fun _ => trivial⟩, rfl, rel_mono h⟩
  · have v24 := hv.1
    have a0 : nI v = 0 ↔ v = 0 := nI_eq (b := 0) (by omega) (by decide)
    rw [q1, q3, if_pos rfl, if_pos rfl]
    by_cases c : v = 0
    · rw [if_pos (a0.mpr c), if_pos (a0.mpr c)]
      exact ⟨⟨q2, fun _ => ⟨fun _ => trivial, fun k => absurd (a0.mpr c) k⟩, fun k => absurd rfl k⟩, rfl, rel_mono h⟩
    · obtain ⟨o7, e7⟩ := room7 K
      obtain ⟨oh, eh⟩ := hangs_n (S := S) v24
      have p : 0 < v := by omega
      obtain ⟨ou, eu⟩ := ucell_n (S := S) v24 (W.2.2.1 v p hv).2.1
      have eu : f_X7_unlikeCells S (nI v) (nI (rU (S.2 0) v)) = nI (rW (S.2 0) v) := eu
      have er : f_X5_roomOf N (nI v) = 1 + 2 * nI (rW (S.2 0) v) := by
        unfold f_X5_roomOf
        rw [difc_n R hv p]
      have w8 : rW (S.2 0) v < 9 := by
        have : rW (S.2 0) v ≤ 8 := uc_le _ _ _
        omega
      have e9 : (8 : Int32) - (1 + 2 * nI (rW (S.2 0) v)) = 7 - 2 * nI (rW (S.2 0) v) := by
        have : ∀ x : Fin 9, (8 : Int32) - (1 + 2 * nI x.1) = 7 - 2 * nI x.1 := by decide +kernel
        exact this ⟨_, w8⟩
      rw [if_neg (fun k => c (a0.mp k)), if_neg (fun k => c (a0.mp k)), kept_n R hv, eh, cl1 v24, src_n W hv p, eu, er, e9, room6 K, e7]
      refine ⟨⟨q2, fun _ => ⟨fun k => absurd (a0.mp k) c, fun _ => ⟨vi1 v24, ou, o7, oh, fun _ => trivial, fun _ => trivial⟩⟩, fun k => absurd rfl k⟩, ?_, rel_mono h⟩
      by_cases g : rH (S.2 0) v = true
      · rw [if_pos g, if_pos g]
      · rw [if_neg g, if_neg g]
        exact Int32.sub_eq_add_neg _ _
