/-! PURE PART. what the law asks of the class, turn by turn -/
def GQ (N : CS) (Q : HS) (n : Nat) : Prop := ∃ s, OKB N s n ∧ GD s n ∧ ∃ k, HQ Q k
/-- a version that there is -/
def LV (N : CS) (a : Int32) : Prop := ∃ x, x < 24 ∧ a = nI x ∧ bt (N.1 0) x = true
theorem LV.of {N : CS} {s : Nat → Int32} {B : Nat} (h : OKB N s B) {a : Int32} (ha : LV N a) : ∃ x, rP s x ∧ a = nI x := by
  obtain ⟨x, x1, x2, x3⟩ := ha
  exact ⟨x, pB_iff.mp (by rw [← h.2.2.1.1 x (by omega)]; exact x3), x2⟩
theorem LV.mk {N : CS} {s : Nat → Int32} {B : Nat} (h : OKB N s B) {x : Nat} (hx : rP s x) : LV N (nI x) := ⟨x, hx.1, rfl, by rw [h.2.2.1.1 x (by have := hx.1; omega)]; exact pB_iff.mpr hx⟩
theorem gq_init : GQ initSt initHS 0 := by
  obtain ⟨i1, i2, i3, i4, i5⟩ := ini_0
  have p : ∀ i, pB initMoS i = decide (i = 0) := fun i => by
    rw [Bool.eq_iff_iff, pB_iff, decide_eq_true_iff]
    exact ⟨fun z => ini_P z, fun z => by subst z; exact ini_K.1.p0⟩
  refine ⟨initMoS, ini_K, ⟨?_, 0, 0, ini0 (by decide) (by decide) (by decide) (by decide) (by decide), ini0 (by decide) (by decide) (by decide) (by decide) (by decide), Nat.le_refl _, Nat.le_refl _, Nat.le_refl _, ?_⟩, 0, by decide, rfl, fun i hi => hi, fun i j _ _ h => h⟩
  · rw [cntB_congr (q := fun i => decide (i = 0)) (fun i _ => p i)]
    decide
  · rw [SM_congr (g := fun _ => 0) (fun i hi => by
      unfold aK
      by_cases c : pB initMoS i = true
      · have : i = 0 := by
          rw [p i] at c
          exact of_decide_eq_true c
        subst this
        rw [if_pos c, ini0 (by decide) (by decide) (by decide) (by decide) (by decide)]
        rfl
      · rw [if_neg c])]
    decide
/-! low and pick -/
theorem low_n (v : Int32) {k : Nat} (h0 : 0 < k) (hk : k < 2 ^ 31) : o_L_low v (nI k) ∧ ∃ j, j < k ∧ f_L_low v (nI k) = nI j := by
  refine ⟨⟨nI_ne0 h0 hk, trivial⟩, ?_⟩
  obtain ⟨j, hj, e⟩ := pk_andE v (m := 2147483647) 31 (by decide)
  refine ⟨j % k, Nat.mod_lt _ h0, ?_⟩
  unfold f_L_low
  rw [e]
  exact pk_rem (by omega) h0 hk
section DOES
variable {N : CS} {s : Nat → Int32} {n : Nat}
theorem pick_n (h : OKS N s n) (M E : CS) (v : Int32) : o_L_pick M N E v ∧ ∃ x, rP s x ∧ (f_L_pick M N E v).1 = nI x := by
  have key : ∀ (at0 J : Nat), at0 < 24 → (at0 + J) % 24 = 0 → J < 24 → ∀ (m i : Nat), i ≤ J → J < i + m → ∀ E : CS, ol_L_pick_9 M N m E (nI ((at0 + i) % 24)) i ∧ ∃ x, rP s x ∧ (l_L_pick_9 M N m E (nI ((at0 + i) % 24)) i).1 = nI x := by
    intro at0 J h1 h2 h3 m
    induction m with
    | zero => intro i x1 x2; omega
    | succ m ih =>
      intro i x1 x2 E
      have q : i < 24 := by omega
      have a24 : (at0 + i) % 24 < 24 := Nat.mod_lt _ (by decide)
      rw [ol_L_pick_9, l_L_pick_9]
      by_cases hi : rP s ((at0 + i) % 24)
      · obtain ⟨w, a⟩ := RO.ex h hi
        have v3 := ver3 h hi a M
        have nw : ¬ nI w < 0 := nI_pos (by have := a.1.1.1; omega)
        simp only [q, v3, nw, bind1, k_L_pick_37, ok_L_pick_37, ↓reduceIte, if_true, if_false, true_and, not_true_eq_false, not_false_eq_true, true_implies, false_implies, and_true]
        exact ⟨_, hi, rfl⟩
      · have vn := ver_no h a24 hi M
        have neg : (-1 : Int32) < 0 := by decide
        have ne : i ≠ J := fun z => hi (by rw [z, h2]; exact h.1.p0)
        have st : irem (nI ((at0 + i) % 24) + 1) 24 = nI ((at0 + (i + 1)) % 24) := by
          have x : irem (nI ((at0 + i) % 24 + 1)) (nI 24) = nI (((at0 + i) % 24 + 1) % 24) := pk_rem (by omega) (by decide) (by decide)
          rw [← nI_1] at x
          rw [show (at0 + (i + 1)) % 24 = ((at0 + i) % 24 + 1) % 24 by omega]
          exact x
        have go := ih (i + 1) (by omega) (by omega)
        simp only [q, vn, neg, st, bind1, ↓reduceIte, if_true, true_and, not_true_eq_false, true_implies, false_implies, and_true]
        exact go E
  obtain ⟨o, j, hj, e⟩ := (show o_L_low v 24 ∧ ∃ j, j < 24 ∧ f_L_low v 24 = nI j from low_n v (k := 24) (by decide) (by decide))
  have k := key j ((24 - j) % 24) hj (by omega) (Nat.mod_lt _ (by decide)) 25 0 (Nat.zero_le _) (by omega) E
  rw [Nat.add_zero, Nat.mod_eq_of_lt hj] at k
  unfold o_L_pick f_L_pick
  rw [e]
  exact ⟨⟨o, k.1⟩, k.2⟩
/-- an act of a turn: it may run, answers no error, and keeps what is asked -/
def RS2 (n : Nat) (o : Prop) (r : Int32 × CS × CS × HS × CS) : Prop := o ∧ ¬ r.1 < 0 ∧ GQ r.2.1 r.2.2.2.1 (n + 1)
theorem RS2.bind {α : Type} {x : α} {f : α → Prop} {g : α → Int32 × CS × CS × HS × CS} (h : RS2 n (f x) (g x)) : RS2 n (bind1 x f) (bind1 x g) := h
theorem RS2.cons {o o' : Prop} {r : Int32 × CS × CS × HS × CS} (h1 : o) (h : RS2 n o' r) : RS2 n (o ∧ o') r := ⟨⟨h1, h.1⟩, h.2⟩
theorem RS2.ite {c : Prop} [Decidable c] {o o' : Prop} {r r' : Int32 × CS × CS × HS × CS} (h1 : c → RS2 n o r) (h2 : ¬ c → RS2 n o' r') : RS2 n ((c → o) ∧ (¬ c → o')) (if c then r else r') := by
  by_cases q : c
  · rw [if_pos q]
    exact ⟨⟨fun _ => (h1 q).1, fun z => absurd q z⟩, (h1 q).2⟩
  · rw [if_neg q]
    exact ⟨⟨fun z => absurd z q, fun _ => (h2 q).1⟩, (h2 q).2⟩
theorem RS2.same (h : OKB N s n) (g : GD s n) {Q : HS} {k : Nat} (hq : HQ Q k) (F E : CS) : RS2 n True (0, N, F, Q, E) := ⟨trivial, (show ¬ (0 : Int32) < 0 by decide), s, h.mono (Nat.le_succ n), g.mono (Nat.le_succ n), k, hq⟩
theorem RS2.done {N' : CS} {s' : Nat → Int32} (h : OKB N' s' (n + 1)) (g : GD s' (n + 1)) {Q : HS} {k : Nat} (hq : HQ Q k) (F X E : CS) {c : Int32} (hc : ¬ c < 0) : RS2 n True (c, N', F, f_X0_record Q X, E) := by
  obtain ⟨-, k', q, -⟩ := rec_n hq X
  exact ⟨trivial, hc, s', h, g, k' + 1, q⟩
theorem leaf_make (h : OKB N s n) (g : GD s n) {Q : HS} {k : Nat} (hq : HQ Q k) (M F E O : CS) {x : Nat} (hx : rP s x) (v1 v2 : Int32) : RS2 n (bind1 (f_X6_count M N Q E O 0) (fun z6 => ((z6.1 = 14 → True) ∧ (¬ (z6.1 = 14) → ((o_L_low v1 8) ∧ ((o_L_low v2 4) ∧ ((o_X6_make M N F Q (nI x) (f_L_low v1 8) (f_L_low v2 4)) ∧ (bind1 (f_X6_make M N F Q (nI x) (f_L_low v1 8) (f_L_low v2 4)) (fun z11 => True))))))))) (bind1 (f_X6_count M N Q E O 0) (fun z6 => (if z6.1 = 14 then (0, N, F, Q, z6.2) else (bind1 (f_X6_make M N F Q (nI x) (f_L_low v1 8) (f_L_low v2 4)) (fun z11 => (z11.1, z11.2.1, z11.2.2.1, z11.2.2.2, z6.2)))))) := by
  obtain ⟨o1, c, hc, e1⟩ := (show o_L_low v1 8 ∧ ∃ j, j < 8 ∧ f_L_low v1 8 = nI j from low_n v1 (k := 8) (by decide) (by decide))
  obtain ⟨o2, j, hj, e2⟩ := (show o_L_low v2 4 ∧ ∃ j, j < 4 ∧ f_L_low v2 4 = nI j from low_n v2 (k := 4) (by decide) (by decide))
  rw [cnt0 h.toS, e1, e2]
  refine RS2.bind (RS2.ite (fun _ => RS2.same h g hq F E) (fun z => RS2.cons o1 (RS2.cons o2 ?_)))
  have le := cntB_le (pB s) 24
  have c13 : cntB (pB s) 24 ≤ 13 := by
    have := g.1
    have : cntB (pB s) 24 ≠ 14 := fun q => z (by show nI (cntB (pB s) 24) = 14; rw [q]; rfl)
    omega
  obtain ⟨v, N', s', v24, nv, e, H, br⟩ := t_make h (by omega) hx hc (show j ≤ 9 by omega) M
  obtain ⟨o, f⟩ := make_e (F := F) hq.2.2.1 e
  rw [show afterQ Q F N (nI v) = f_X0_record Q (f_X5_copyFrom F N) from if_neg (nI_pos (by omega))] at f
  rw [f]
  exact RS2.cons o (RS2.bind (RS2.done (H.mono (Nat.le_succ n)) ((g.born c13 v24 nv br).mono (Nat.le_succ n)) hq _ _ _ (nI_pos (by omega))))
theorem leaf_mix (h : OKB N s n) (g : GD s n) {Q : HS} {k : Nat} (hq : HQ Q k) (M F E O : CS) {x y : Nat} (hx : rP s x) (hy : rP s y) (v1 : Int32) : RS2 n (bind1 (f_X6_count M N Q E O 0) (fun z27 => ((z27.1 = 14 → True) ∧ (¬ (z27.1 = 14) → ((o_L_low v1 255) ∧ ((o_X6_mix M N F Q (nI x) (nI y) ((1 : Int32) + (f_L_low v1 255))) ∧ (bind1 (f_X6_mix M N F Q (nI x) (nI y) ((1 : Int32) + (f_L_low v1 255))) (fun z31 => True)))))))) (bind1 (f_X6_count M N Q E O 0) (fun z27 => (if z27.1 = 14 then (0, N, F, Q, z27.2) else (bind1 (f_X6_mix M N F Q (nI x) (nI y) ((1 : Int32) + (f_L_low v1 255))) (fun z31 => (z31.1, z31.2.1, z31.2.2.1, z31.2.2.2, z27.2)))))) := by
  obtain ⟨o1, c, hc, e1⟩ := (show o_L_low v1 255 ∧ ∃ j, j < 255 ∧ f_L_low v1 255 = nI j from low_n v1 (k := 255) (by decide) (by decide))
  rw [cnt0 h.toS, e1, show (1 : Int32) + nI c = nI (1 + c) from nI_add 1 _]
  refine RS2.bind (RS2.ite (fun _ => RS2.same h g hq F E) (fun z => RS2.cons o1 ?_))
  have le := cntB_le (pB s) 24
  have c13 : cntB (pB s) 24 ≤ 13 := by
    have := g.1
    have : cntB (pB s) 24 ≠ 14 := fun q => z (by show nI (cntB (pB s) 24) = 14; rw [q]; rfl)
    omega
  obtain ⟨v, N', s', v24, nv, e, H, br⟩ := t_mix h (by omega) hx hy (show 1 ≤ 1 + c by omega) (show 1 + c ≤ 255 by omega) M
  obtain ⟨o, f⟩ := mix_e (F := F) hq.2.2.1 e
  rw [show afterQ Q F N (nI v) = f_X0_record Q (f_X5_copyFrom F N) from if_neg (nI_pos (by omega))] at f
  rw [f]
  exact RS2.cons o (RS2.bind (RS2.done (H.mono (Nat.le_succ n)) ((g.born c13 v24 nv br).mono (Nat.le_succ n)) hq _ _ _ (nI_pos (by omega))))
theorem leaf_rem (h : OKB N s n) (g : GD s n) {Q : HS} {k : Nat} (hq : HQ Q k) (M F E : CS) {x : Nat} (hx : rP s x) : RS2 n ((o_X6_remove M N F Q (nI x)) ∧ (bind1 (f_X6_remove M N F Q (nI x)) (fun z40 => ((z40.1 = (-4) → True) ∧ (¬ (z40.1 = (-4)) → True))))) (bind1 (f_X6_remove M N F Q (nI x)) (fun z40 => (if z40.1 = (-4) then (0, z40.2.1, z40.2.2.1, z40.2.2.2, E) else (z40.1, z40.2.1, z40.2.2.1, z40.2.2.2, E)))) := by
  rcases rem_e h hq.2.2.1 hx M F with ⟨o, f⟩ | ⟨x0, N', H, o, f⟩
  · rw [f]
    exact RS2.cons o (RS2.bind (RS2.ite (fun _ => RS2.same h g hq F E) (fun z => absurd rfl z)))
  · have le := cntB_le (pB (goneR s x)) 24
    have nn : ¬ nI (cntB (pB (goneR s x)) 24) < 0 := nI_pos (by omega)
    rw [f]
    refine RS2.cons o (RS2.bind (RS2.ite (fun z => ?_) (fun _ => RS2.done (H.mono (Nat.le_succ n)) ((g.gone hx.1 (h.1.2.2.1 x x0 hx).2.1).mono (Nat.le_succ n)) hq _ _ _ nn)))
    have z : nI (cntB (pB (goneR s x)) 24) = -4 := z
    exact absurd (z ▸ (show (-4 : Int32) < 0 by decide)) nn
/-- an act that changes roots and differences alone -/
theorem keep_mv (g : GD s n) {s' : Nat → Int32} (e : ∀ j, j < 318 → (j < 312 ∧ (j % 13 = 0 ∨ j % 13 = 4)) ∨ j = 314 ∨ j = 315 → s' j = s j) : GD s' (n + 1) :=
  (g.keep (fun v hv => e _ (by omega) (by omega)) (fun v hv => e _ (by omega) (by omega)) (e 314 (by decide) (by decide)) (e 315 (by decide) (by decide))).mono (Nat.le_succ n)
theorem leaf_root (h : OKB N s n) (g : GD s n) {Q : HS} {k : Nat} (hq : HQ Q k) (M F E : CS) {x : Nat} (hx : rP s x) : RS2 n ((o_X6_root M N F Q E (nI x)) ∧ (bind1 (f_X6_root M N F Q E (nI x)) (fun z44 => ((z44.1 = (-5) → True) ∧ (¬ (z44.1 = (-5)) → True))))) (bind1 (f_X6_root M N F Q E (nI x)) (fun z44 => (if z44.1 = (-5) then (0, z44.2.1, z44.2.2.1, z44.2.2.2.1, z44.2.2.2.2) else (z44.1, z44.2.1, z44.2.2.1, z44.2.2.2.1, z44.2.2.2.2)))) := by
  obtain ⟨w, a⟩ := RO.ex h.toS hx
  have x24 := hx.1
  have w24 := a.1.1.1
  obtain ⟨t1, t2⟩ := t_root h hx a M E
  by_cases c : w = x
  · obtain ⟨o, f⟩ := root_e (F := F) hq.2.2.1 (t1 c)
    rw [show afterQ Q F N (-5) = Q from if_pos (by decide)] at f
    rw [f]
    exact RS2.cons o (RS2.bind (RS2.ite (fun _ => RS2.same h g hq _ _) (fun z => absurd rfl z)))
  · obtain ⟨N', E', e, H⟩ := t2 c
    have dl : yD s w x ≤ 23 := DD_le h.1.tr a.1.1 hx a.2
    have nn : ¬ nI (yD s w x) < 0 := nI_pos (by omega)
    obtain ⟨o, f⟩ := root_e (F := F) hq.2.2.1 e
    rw [show afterQ Q F N (nI (yD s w x)) = f_X0_record Q (f_X5_copyFrom F N) from if_neg nn] at f
    rw [f]
    refine RS2.cons o (RS2.bind (RS2.ite (fun z => ?_) (fun _ => RS2.done (H.mono (Nat.le_succ n)) (keep_mv g (fun j hj d => ?_)) hq _ _ _ nn)))
    · have z : nI (yD s w x) = -5 := z
      exact absurd (z ▸ (show (-5 : Int32) < 0 by decide)) nn
    · by_cases j3 : j % 13 = 3
      · exact mv_g s w24 x24 (by omega)
      · exact mv_o s w x j3
theorem leaf_cut (h : OKB N s n) (g : GD s n) {Q : HS} {k : Nat} (hq : HQ Q k) (M F E : CS) {x : Nat} (hx : rP s x) : RS2 n ((o_X6_cut M N F Q E (nI x)) ∧ (bind1 (f_X6_cut M N F Q E (nI x)) (fun z52 => ((z52.1 = (-5) → True) ∧ (¬ (z52.1 = (-5)) → ((z52.1 = (-4) → True) ∧ (¬ (z52.1 = (-4)) → True))))))) (bind1 (f_X6_cut M N F Q E (nI x)) (fun z52 => (if z52.1 = (-5) then (0, z52.2.1, z52.2.2.1, z52.2.2.2.1, z52.2.2.2.2) else (if z52.1 = (-4) then (0, z52.2.1, z52.2.2.1, z52.2.2.2.1, z52.2.2.2.2) else (z52.1, z52.2.1, z52.2.2.1, z52.2.2.2.1, z52.2.2.2.2))))) := by
  obtain ⟨t0, t1, t2⟩ := cut_e h hq.2.2.1 hx M F E
  have x24 := hx.1
  by_cases c : x = 0
  · obtain ⟨o, f⟩ := t0 c
    rw [f]
    exact RS2.cons o (RS2.bind (RS2.ite (fun z => absurd (show (-4 : Int32) = -5 from z) (by decide)) (fun _ => RS2.ite (fun _ => RS2.same h g hq _ _) (fun z => absurd rfl z))))
  · by_cases d : rH s x = true
    · obtain ⟨y, N', E', y1, y2, y3, H, o, f⟩ := t2 (by omega) d
      have y24 := y3.1
      have le := cntB_le (tB (ct s x y)) 24
      have nn : ¬ nI (cntB (tB (ct s x y)) 24) < 0 := nI_pos (by omega)
      rw [f]
      refine RS2.cons o (RS2.bind (RS2.ite (fun z => ?_) (fun _ => RS2.ite (fun z => ?_) (fun _ => RS2.done (H.mono (Nat.le_succ n)) (keep_mv g (fun j hj e => ?_)) hq _ _ _ nn))))
      · have z : nI (cntB (tB (ct s x y)) 24) = -5 := z
        exact absurd (z ▸ (show (-5 : Int32) < 0 by decide)) nn
      · have z : nI (cntB (tB (ct s x y)) 24) = -4 := z
        exact absurd (z ▸ (show (-4 : Int32) < 0 by decide)) nn
      · rw [ct_o _ _ _ (by omega), ct0_o _ _ (by omega)]
    · obtain ⟨o, f⟩ := t1 (by omega) d
      rw [f]
      exact RS2.cons o (RS2.bind (RS2.ite (fun _ => RS2.same h g hq _ _) (fun z => absurd rfl z)))
theorem leaf_join (h : OKB N s n) (g : GD s n) {Q : HS} {k : Nat} (hq : HQ Q k) (M F E : CS) {x : Nat} (hx : rP s x) : RS2 n ((o_X6_join M N F Q E (nI x)) ∧ (bind1 (f_X6_join M N F Q E (nI x)) (fun z52 => ((z52.1 = (-5) → True) ∧ (¬ (z52.1 = (-5)) → ((z52.1 = (-4) → True) ∧ (¬ (z52.1 = (-4)) → True))))))) (bind1 (f_X6_join M N F Q E (nI x)) (fun z52 => (if z52.1 = (-5) then (0, z52.2.1, z52.2.2.1, z52.2.2.2.1, z52.2.2.2.2) else (if z52.1 = (-4) then (0, z52.2.1, z52.2.2.1, z52.2.2.2.1, z52.2.2.2.2) else (z52.1, z52.2.1, z52.2.2.1, z52.2.2.2.1, z52.2.2.2.2))))) := by
  have x24 := hx.1
  by_cases c : x = 0
  · have e : f_X6_tryJoin M N E (nI x) = (-4, N, E) := by
      unfold f_X6_tryJoin
      rw [has_P h.2.2.1 hx, if_pos rfl, if_pos (show nI x = 0 by rw [c]; rfl)]
    obtain ⟨o, f⟩ := join_e (F := F) hq.2.2.1 e
    rw [show afterQ Q F N (-4) = Q from if_pos (by decide)] at f
    rw [f]
    exact RS2.cons o (RS2.bind (RS2.ite (fun z => absurd (show (-4 : Int32) = -5 from z) (by decide)) (fun _ => RS2.ite (fun _ => RS2.same h g hq _ _) (fun z => absurd rfl z))))
  · obtain ⟨w, a⟩ := RO.ex h.toS hx
    have w24 := a.1.1.1
    obtain ⟨t1, t2⟩ := t_join h hx (by omega) a M E
    by_cases d : rH s x = true
    · obtain ⟨o, f⟩ := join_e (F := F) hq.2.2.1 (t1 d)
      rw [show afterQ Q F N (-5) = Q from if_pos (by decide)] at f
      rw [f]
      exact RS2.cons o (RS2.bind (RS2.ite (fun _ => RS2.same h g hq _ _) (fun z => absurd rfl z)))
    · obtain ⟨N', E', e, H⟩ := t2 d
      have le := cntB_le (tB (jn s w x)) 24
      have nn : ¬ nI (cntB (tB (jn s w x)) 24) < 0 := nI_pos (by omega)
      obtain ⟨o, f⟩ := join_e (F := F) hq.2.2.1 e
      rw [show afterQ Q F N (nI (cntB (tB (jn s w x)) 24)) = f_X0_record Q (f_X5_copyFrom F N) from if_neg nn] at f
      rw [f]
      refine RS2.cons o (RS2.bind (RS2.ite (fun z => ?_) (fun _ => RS2.ite (fun z => ?_) (fun _ => RS2.done (H.mono (Nat.le_succ n)) (keep_mv g (fun j hj e => ?_)) hq _ _ _ nn))))
      · have z : nI (cntB (tB (jn s w x)) 24) = -5 := z
        exact absurd (z ▸ (show (-5 : Int32) < 0 by decide)) nn
      · have z : nI (cntB (tB (jn s w x)) 24) = -4 := z
        exact absurd (z ▸ (show (-4 : Int32) < 0 by decide)) nn
      · unfold jn
        rw [pk_un (by omega), pk_un (by omega)]
theorem leaf_ask (h : OKB N s n) (g : GD s n) (hn : n < 54) {Q : HS} {k : Nat} (hq : HQ Q k) (M F E : CS) {x : Nat} (hx : rP s x) : RS2 n ((o_X6_ask M N F Q E (nI x)) ∧ (bind1 (f_X6_ask M N F Q E (nI x)) (fun z73 => True))) (bind1 (f_X6_ask M N F Q E (nI x)) (fun z73 => (z73.1, z73.2.1, z73.2.2.1, z73.2.2.2.1, z73.2.2.2.2))) := by
  obtain ⟨w, a⟩ := RO.ex h.toS hx
  have cl := wC_le h.1 a.1.1 hx a.2
  have nn : ¬ nI (1 + yC s w x) < 0 := nI_pos (by omega)
  obtain ⟨N', E', s', e, H, as⟩ := t_ask h hx a M E
  obtain ⟨o, f⟩ := ask_e (F := F) hq.2.2.1 e
  rw [show afterQ Q F N (nI (1 + yC s w x)) = f_X0_record Q (f_X5_copyFrom F N) from if_neg nn] at f
  rw [f]
  obtain ⟨q, q1, q2⟩ := h.2.2.2 x hx
  exact RS2.cons o (RS2.bind (RS2.done H (g.asked h.1 ⟨q, by omega, q2⟩ hx a as) hq _ _ _ nn))
theorem leaf_set (h : OKB N s n) (g : GD s n) {Q : HS} {k : Nat} (hq : HQ Q k) (M F : CS) {w j : Nat} (hw : (w = 0 ∧ j ≤ 2) ∨ (w = 1 ∧ 1 ≤ j ∧ j ≤ 30)) {v y : Int32} (ew : (v >>> (4 &&& 31)) &&& 1 = nI w) (ey : y = nI j) (z4 : Int32 × CS) : RS2 n (oj_L_does_290 M N F Q v y) (j_L_does_290 M N F Q v z4 y) := by
  unfold oj_L_does_290 j_L_does_290
  rw [ew, ey]
  rcases set_e h hq.2.2.1 M F hw with ⟨o, f⟩ | ⟨c, N', nn, H, o, f⟩
  · rw [f]
    exact RS2.cons o (RS2.bind (RS2.ite (fun _ => RS2.same h g hq _ _) (fun z => absurd rfl z)))
  · rw [f]
    refine RS2.cons o (RS2.bind (RS2.ite (fun z => ?_) (fun _ => RS2.done (H.mono (Nat.le_succ n)) (keep_mv g (fun i hi e => pk_un ?_)) hq _ _ _ nn)))
    · have z : c = -5 := z
      exact absurd (z ▸ (show (-5 : Int32) < 0 by decide)) nn
    · rcases hw with ⟨rfl, -⟩ | ⟨rfl, -⟩ <;> omega
end DOES
set_option maxHeartbeats 16000000 in
theorem does_ok (M N F : CS) (Q : HS) (E O : CS) {n : Nat} (h : GQ N Q n) (hn : n < 54) (v : Int32) : o_L_does M N F Q E O v ∧ ¬ (f_L_does M N F Q E O v).1 < 0 ∧ GQ (f_L_does M N F Q E O v).2.1 (f_L_does M N F Q E O v).2.2.2.1 (n + 1) := by
  obtain ⟨s, H, g, k, hq⟩ := h
  show RS2 n (o_L_does M N F Q E O v) (f_L_does M N F Q E O v)
  unfold o_L_does f_L_does
  obtain ⟨o2, x, hx, e2⟩ := pick_n H.toS M E (v >>> (4 &&& 31))
  refine RS2.cons o2 (RS2.bind ?_)
  generalize f_L_pick M N E (v >>> (4 &&& 31)) = z2 at e2 ⊢
  obtain ⟨o4, y, hy, e4⟩ := pick_n H.toS M z2.2 (v >>> (7 &&& 31))
  refine RS2.cons o4 (RS2.bind ?_)
  generalize f_L_pick M N z2.2 (v >>> (7 &&& 31)) = z4 at e4 ⊢
  rw [e2, e4]
  refine RS2.ite (fun _ => leaf_make H g hq M F z4.2 O hx _ _) (fun _ => ?_)
  refine RS2.ite (fun _ => leaf_make H g hq M F z4.2 O hx _ _) (fun _ => ?_)
  refine RS2.ite (fun _ => leaf_make H g hq M F z4.2 O hx _ _) (fun _ => ?_)
  refine RS2.ite (fun _ => leaf_mix H g hq M F z4.2 O hx hy _) (fun _ => ?_)
  refine RS2.ite (fun _ => leaf_mix H g hq M F z4.2 O hx hy _) (fun _ => ?_)
  refine RS2.ite (fun _ => leaf_rem H g hq M F z4.2 hx) (fun _ => ?_)
  refine RS2.ite (fun _ => leaf_root H g hq M F z4.2 hx) (fun _ => ?_)
  refine RS2.ite (fun _ => leaf_root H g hq M F z4.2 hx) (fun _ => ?_)
  refine RS2.ite (fun _ => leaf_cut H g hq M F z4.2 hx) (fun _ => ?_)
  refine RS2.ite (fun _ => leaf_join H g hq M F z4.2 hx) (fun _ => ?_)
  refine RS2.ite (fun _ => leaf_join H g hq M F z4.2 hx) (fun _ => ?_)
  refine RS2.ite (fun _ => ?_) (fun _ => leaf_ask H g hn hq M F z4.2 hx)
  obtain ⟨w, hw, ew⟩ := pk_andE (v >>> (4 &&& 31)) (m := 1) 1 (by decide)
  obtain ⟨o3, j3, hj3, e3⟩ := (show o_L_low (v >>> (5 &&& 31)) 3 ∧ ∃ j, j < 3 ∧ f_L_low (v >>> (5 &&& 31)) 3 = nI j from low_n _ (k := 3) (by decide) (by decide))
  obtain ⟨o5, j5, hj5, e5⟩ := (show o_L_low (v >>> (5 &&& 31)) 4 ∧ ∃ j, j < 4 ∧ f_L_low (v >>> (5 &&& 31)) 4 = nI j from low_n _ (k := 4) (by decide) (by decide))
  refine RS2.ite (fun c => RS2.cons o3 (leaf_set H g hq M F (w := 0) (j := j3) (Or.inl ⟨rfl, by omega⟩) c e3 z4)) (fun c => RS2.cons o5 (leaf_set H g hq M F (w := 1) (j := 1 + j5) (Or.inr ⟨rfl, by omega, by omega⟩) ?_ (by rw [e5]; exact nI_add 1 _) z4))
  rcases (show w = 0 ∨ w = 1 by omega) with rfl | rfl
  · exact absurd ew c
  · exact ew
theorem pick_ok (M N E : CS) {Q : HS} {n : Nat} (h : GQ N Q n) (v : Int32) : o_L_pick M N E v ∧ LV N (f_L_pick M N E v).1 := by
  obtain ⟨s, H, -⟩ := h
  obtain ⟨o, x, hx, e⟩ := pick_n H.toS M E v
  rw [e]
  exact ⟨o, LV.mk H hx⟩
theorem isSo_ok (M N : CS) {Q : HS} (E O : CS) {n : Nat} (h : GQ N Q n) (hn : n ≤ 54) : (f_L_isSo M N Q E O).1 = true := by
  obtain ⟨s, H, g, -⟩ := h
  exact isSo_n H.toS g (by omega) M E O Q
theorem isWaySo_ok (M N E : CS) {Q : HS} {n : Nat} (h : GQ N Q n) {a : Int32} (ha : LV N a) : o_L_isWaySo M N E a ∧ (f_L_isWaySo M N E a).1 = true := by
  obtain ⟨s, H, -⟩ := h
  obtain ⟨x, hx, rfl⟩ := LV.of H ha
  exact isWaySo_n H.toS hx M E
theorem isAskSo_ok (M N F : CS) (Q : HS) (E O : CS) {n : Nat} (h : GQ N Q n) (hn : n ≤ 54) {a : Int32} (ha : LV N a) : o_L_isAskSo M N F Q E O a ∧ (f_L_isAskSo M N F Q E O a).1 = true ∧ GQ (f_L_isAskSo M N F Q E O a).2.1 (f_L_isAskSo M N F Q E O a).2.2.2.1 n ∧ ∀ b, LV N b → LV (f_L_isAskSo M N F Q E O a).2.1 b := by
  obtain ⟨s, H, g, k, hq⟩ := h
  obtain ⟨x, hx, rfl⟩ := LV.of H ha
  obtain ⟨o, r, H', q⟩ := isAskSo_n H hx hq M F E O
  refine ⟨o, r, ⟨s, H', g, q⟩, fun b hb => ?_⟩
  obtain ⟨y, hy, rfl⟩ := LV.of H hb
  exact LV.mk H' hy
theorem areIfsSo_ok (M N F : CS) (Q : HS) (E O : CS) {n : Nat} (h : GQ N Q n) (hn : n ≤ 54) {a b : Int32} (ha : LV N a) (hb : LV N b) : o_L_areIfsSo M N F Q E O a b ∧ (f_L_areIfsSo M N F Q E O a b).1 = true ∧ GQ (f_L_areIfsSo M N F Q E O a b).2.1 (f_L_areIfsSo M N F Q E O a b).2.2.2.1 n := by
  obtain ⟨s, H, g, k, hq⟩ := h
  obtain ⟨x, hx, rfl⟩ := LV.of H ha
  obtain ⟨y, hy, rfl⟩ := LV.of H hb
  obtain ⟨o, r, H', q⟩ := areIfsSo_n H (by omega) hx hy hq M F E O
  exact ⟨o, r, s, H', g, q⟩
