/-! PURE PART. acts that are tried; cut -/
theorem sim3 {M N F P : CS} {Q : HS} {E O S : CS} {n B : Nat} (h : REL M N F P Q E O S n) {A : Int32 × CS × CS} {r : CS → Int32 × CS} {oR : CS → Prop} (hB : B ≤ 50 * (n + 1)) (t : oR (f_X7_putAside S) ∧ A.1 = (r (f_X7_putAside S)).1 ∧ OKB A.2.1 ((r (f_X7_putAside S)).2.2 0) B ∧ chg (f_X7_putAside S) (r (f_X7_putAside S)).2) : (bind1 (f_X6_beginAct M N F) (fun z1 => (bind1 A (fun z2 => ((o_X6_endAct M z1 Q z2.1) ∧ (bind1 (f_X6_endAct M z1 Q z2.1) (fun z4 => True))))))) ∧ (bind1 (f_X7_putAside S) (fun z1 => ((oR z1) ∧ (bind1 (r z1) (fun z3 => ((o_X7_act z3.2 z3.1) ∧ (bind1 (f_X7_act z3.2 z3.1) (fun z5 => True)))))))) ∧ (bind1 (f_X6_beginAct M N F) (fun z1 => (bind1 A (fun z2 => (bind1 (f_X6_endAct M z1 Q z2.1) (fun z4 => (z4.1, z2.2.1, z1, z4.2, z2.2.2))))))).1 = (bind1 (f_X7_putAside S) (fun z1 => (bind1 (r z1) (fun z3 => (bind1 (f_X7_act z3.2 z3.1) (fun z5 => (z5.1, z5.2))))))).1 ∧ REL M (bind1 (f_X6_beginAct M N F) (fun z1 => (bind1 A (fun z2 => (bind1 (f_X6_endAct M z1 Q z2.1) (fun z4 => (z4.1, z2.2.1, z1, z4.2, z2.2.2))))))).2.1 (bind1 (f_X6_beginAct M N F) (fun z1 => (bind1 A (fun z2 => (bind1 (f_X6_endAct M z1 Q z2.1) (fun z4 => (z4.1, z2.2.1, z1, z4.2, z2.2.2))))))).2.2.1 P (bind1 (f_X6_beginAct M N F) (fun z1 => (bind1 A (fun z2 => (bind1 (f_X6_endAct M z1 Q z2.1) (fun z4 => (z4.1, z2.2.1, z1, z4.2, z2.2.2))))))).2.2.2.1 (bind1 (f_X6_beginAct M N F) (fun z1 => (bind1 A (fun z2 => (bind1 (f_X6_endAct M z1 Q z2.1) (fun z4 => (z4.1, z2.2.1, z1, z4.2, z2.2.2))))))).2.2.2.2 O (bind1 (f_X7_putAside S) (fun z1 => (bind1 (r z1) (fun z3 => (bind1 (f_X7_act z3.2 z3.1) (fun z5 => (z5.1, z5.2))))))).2 (n + 1) := by
  obtain ⟨t1, t2, t3, t4⟩ := t
  obtain ⟨A1, A2, A3⟩ := A
  have t2 : A1 = (r (f_X7_putAside S)).1 := t2
  subst t2
  obtain ⟨o, a1, a2, a3, a4⟩ := act_fin h t4 (t3.fin hB) (r (f_X7_putAside S)).1 A3
  rw [cls3_e, act_e]
  exact ⟨cls3_o a2, act_o (A := r) (oA := oR) t1 o, a3.trans a1.symm, a4⟩
theorem sim2 {M N F P : CS} {Q : HS} {E O S : CS} {n B : Nat} (h : REL M N F P Q E O S n) {A : Int32 × CS} {r : CS → Int32 × CS} {oR : CS → Prop} (hB : B ≤ 50 * (n + 1)) (t : oR (f_X7_putAside S) ∧ A.1 = (r (f_X7_putAside S)).1 ∧ OKB A.2 ((r (f_X7_putAside S)).2.2 0) B ∧ chg (f_X7_putAside S) (r (f_X7_putAside S)).2) : (bind1 (f_X6_beginAct M N F) (fun z1 => (bind1 A (fun z2 => ((o_X6_endAct M z1 Q z2.1) ∧ (bind1 (f_X6_endAct M z1 Q z2.1) (fun z4 => True))))))) ∧ (bind1 (f_X7_putAside S) (fun z1 => ((oR z1) ∧ (bind1 (r z1) (fun z3 => ((o_X7_act z3.2 z3.1) ∧ (bind1 (f_X7_act z3.2 z3.1) (fun z5 => True)))))))) ∧ (bind1 (f_X6_beginAct M N F) (fun z1 => (bind1 A (fun z2 => (bind1 (f_X6_endAct M z1 Q z2.1) (fun z4 => (z4.1, z2.2, z1, z4.2))))))).1 = (bind1 (f_X7_putAside S) (fun z1 => (bind1 (r z1) (fun z3 => (bind1 (f_X7_act z3.2 z3.1) (fun z5 => (z5.1, z5.2))))))).1 ∧ REL M (bind1 (f_X6_beginAct M N F) (fun z1 => (bind1 A (fun z2 => (bind1 (f_X6_endAct M z1 Q z2.1) (fun z4 => (z4.1, z2.2, z1, z4.2))))))).2.1 (bind1 (f_X6_beginAct M N F) (fun z1 => (bind1 A (fun z2 => (bind1 (f_X6_endAct M z1 Q z2.1) (fun z4 => (z4.1, z2.2, z1, z4.2))))))).2.2.1 P (bind1 (f_X6_beginAct M N F) (fun z1 => (bind1 A (fun z2 => (bind1 (f_X6_endAct M z1 Q z2.1) (fun z4 => (z4.1, z2.2, z1, z4.2))))))).2.2.2 E O (bind1 (f_X7_putAside S) (fun z1 => (bind1 (r z1) (fun z3 => (bind1 (f_X7_act z3.2 z3.1) (fun z5 => (z5.1, z5.2))))))).2 (n + 1) := by
  obtain ⟨t1, t2, t3, t4⟩ := t
  obtain ⟨A1, A2⟩ := A
  have t2 : A1 = (r (f_X7_putAside S)).1 := t2
  subst t2
  obtain ⟨o, a1, a2, a3, a4⟩ := act_fin h t4 (t3.fin hB) (r (f_X7_putAside S)).1 E
  rw [cls2_e, act_e]
  exact ⟨cls2_o a2, act_o (A := r) (oA := oR) t1 o, a3.trans a1.symm, a4⟩
theorem relB {M N F P : CS} {Q : HS} {E O S : CS} {n : Nat} (h : REL M N F P Q E O S n) : OKB N ((f_X7_putAside S).2 0) (50 * n) := by
  rw [aside0]
  exact h.1
theorem sim_root (M : CS) (N : CS) (F : CS) (P : CS) (Q : HS) (E : CS) (O : CS) (S : CS) (n : Nat) (a1 : Int32) (h : REL M N F P Q E O S n) (hn : n < 512) : (o_X6_root M N F Q E a1) ∧ (o_X7_root S a1) ∧ (f_X6_root M N F Q E a1).1 = (f_X7_root S a1).1 ∧ REL M ((f_X6_root M N F Q E a1).2.1) ((f_X6_root M N F Q E a1).2.2.1) P ((f_X6_root M N F Q E a1).2.2.2.1) ((f_X6_root M N F Q E a1).2.2.2.2) O ((f_X7_root S a1).2) (n + 1) :=
  sim3 h (A := f_X6_tryRoot M N E a1) (r := fun z => f_X7_roots z a1) (oR := fun z => o_X7_roots z a1) (show 50 * n ≤ 50 * (n + 1) by omega) (t_root (relB h) M E a1)
theorem sim_join (M : CS) (N : CS) (F : CS) (P : CS) (Q : HS) (E : CS) (O : CS) (S : CS) (n : Nat) (a1 : Int32) (h : REL M N F P Q E O S n) (hn : n < 512) : (o_X6_join M N F Q E a1) ∧ (o_X7_join S a1) ∧ (f_X6_join M N F Q E a1).1 = (f_X7_join S a1).1 ∧ REL M ((f_X6_join M N F Q E a1).2.1) ((f_X6_join M N F Q E a1).2.2.1) P ((f_X6_join M N F Q E a1).2.2.2.1) ((f_X6_join M N F Q E a1).2.2.2.2) O ((f_X7_join S a1).2) (n + 1) :=
  sim3 h (A := f_X6_tryJoin M N E a1) (r := fun z => f_X7_joins z a1) (oR := fun z => o_X7_joins z a1) (show 50 * n ≤ 50 * (n + 1) by omega) (t_join (relB h) M E a1)
/-! cut -/
section CUT
variable {N : CS} {s : Nat → Int32} {B : Nat}
def ct0 (s : Nat → Int32) (x : Nat) : Nat → Int32 := upd s (13 * x + 2) 0
def ct (s : Nat → Int32) (x y : Nat) : Nat → Int32 := upd (ct0 s x) (13 * y + 3) 1
theorem ct0_o (s : Nat → Int32) (x : Nat) {j : Nat} (h : j ≠ 13 * x + 2) : ct0 s x j = s j := pk_un h
theorem ct0_2 (s : Nat → Int32) (x : Nat) : ct0 s x (13 * x + 2) = 0 := pk_us
theorem ct0_e (s : Nat → Int32) (x : Nat) : same3 s (ct0 s x) := fun _ _ b _ _ => ct0_o s x (by omega)
theorem ct_o (s : Nat → Int32) (x y : Nat) {j : Nat} (h : j ≠ 13 * y + 3) : ct s x y j = ct0 s x j := pk_un h
theorem ct_e (s : Nat → Int32) (x y : Nat) : same3 s (ct s x y) := fun _ _ b c _ => (ct_o s x y (by omega)).trans (ct0_o s x (by omega))
theorem ct_3 (s : Nat → Int32) (x y u : Nat) : (ct s x y (13 * u + 3) = 1 ↔ (u = y ∨ s (13 * u + 3) = 1)) := by
  by_cases c : u = y
  · subst c
    exact ⟨fun _ => Or.inl rfl, fun _ => pk_us⟩
  · rw [ct_o s x y (by omega), ct0_o s x (by omega)]
    exact ⟨Or.inr, fun z => z.elim (fun k => absurd k c) id⟩
theorem rT_ct {s' : Nat → Int32} (W : SH s) (e : same3 s s') {x : Nat} (gx : rH s x = true) (e2 : ∀ v, rP s v → v ≠ x → s' (13 * v + 2) = s (13 * v + 2)) (e2x : s' (13 * x + 2) = 0) {v : Nat} (hv : rP s v) : rT s' v = if cm (rU s) (rH s) v x then x else rT s v := by
  have hH : ∀ v, rP s v → v ≠ x → rH s' v = rH s v := fun v hv n => by unfold rH; rw [e2 v hv n]
  have gx' : rH s' x = false := by
    unfold rH
    rw [e2x]
    simp
  rw [rT_3 W e hv]
  exact tp_cut W.tr (tr_any W s') gx' hH gx _ v hv (Nat.le_refl _)
theorem rR_ct0 {x u : Nat} : rR (ct0 s x) u ↔ rR s u := by
  unfold rR
  rw [rP_3 (ct0_e s x), ct0_o s x (by omega)]
theorem cut_roots (W : SH s) (L : FL s) {x w : Nat} (hx : rP s x) (gx : rH s x = true) (hw : rR s w) (hwx : rT s w = rT s x) : (cm (rU s) (rH s) w x → rT (ct0 s x) w = rT (ct0 s x) x ∧ ∀ w', rR (ct0 s x) w' → rT (ct0 s x) w' = rT (ct0 s x) x → w' = w) ∧ (¬ cm (rU s) (rH s) w x → ∀ w', rR (ct0 s x) w' → ¬ rT (ct0 s x) w' = rT (ct0 s x) x) := by
  have hT : ∀ v, rP s v → rT (ct0 s x) v = if cm (rU s) (rH s) v x then x else rT s v := fun v hv => rT_ct W (ct0_e s x) gx (fun v _ c => ct0_o s x (by omega)) (ct0_2 s x) hv
  have hTx : rT (ct0 s x) x = x := by rw [hT x hx, if_pos (cm_refl x)]
  have key : ∀ w', rR (ct0 s x) w' → rT (ct0 s x) w' = rT (ct0 s x) x → w' = w ∧ cm (rU s) (rH s) w' x := by
    intro w' h' t
    have h' := rR_ct0.mp h'
    rw [hTx, hT w' h'.1] at t
    by_cases c : cm (rU s) (rH s) w' x
    · exact ⟨L.2.2.1 w' w h' hw (by rw [hwx]; exact (cm_tp' W.tr h'.1 c).symm), c⟩
    · rw [if_neg c] at t
      exact absurd (t ▸ cm_top W.tr h'.1) c
  refine ⟨fun c => ⟨?_, fun w' a b => (key w' a b).1⟩, fun c w' a b => ?_⟩
  · rw [hTx, hT w hw.1, if_pos c]
  · obtain ⟨k1, k2⟩ := key w' a b
    exact c (k1 ▸ k2)
theorem OKB.cutted (h : OKB N s B) {x w y : Nat} (hx : rP s x) (gx : rH s x = true) (hw : rR s w) (hwx : rT s w = rT s x) (hy : rP s y) (hyx : rT s y = rT s x) (hc : cm (rU s) (rH s) y x ↔ ¬ cm (rU s) (rH s) w x) : OKB (f_X5_addRoot (f_X5_cutDifference N (nI x)) (nI y)) (ct s x y) B := by
  obtain ⟨W, L, R, b⟩ := h
  have y24 := hy.1
  have x24 := hx.1
  refine OKB.flags (N' := f_X5_addRoot (f_X5_cutDifference N (nI x)) (nI y)) (B' := B) ⟨W, L, R, b⟩ (ct_e s x y) (FL.cut W L (ct_e s x y) hx gx (fun v _ c => (ct_o s x y (by omega)).trans (ct0_o s x (by omega))) ((ct_o s x y (by omega)).trans (ct0_2 s x)) (L.2.2.2.1.mod ((ct_o s x y (by omega)).trans (ct0_o s x (by omega))) ((ct_o s x y (by omega)).trans (ct0_o s x (by omega)))) hw hwx hy hyx hc (fun u _ => ct_3 s x y u)) rfl (fun i hi => ?_) (fun i hi => ?_) rfl rfl rfl (fun v hv => ?_) (fun j a c => ?_)
  · show bt (N.1 1 &&& (f_X4_of (nI x) ^^^ (-1))) i = true ↔ _
    rw [band_i x24 hi, k_i R hi]
    by_cases c : i = x
    · subst c
      refine ⟨fun z => absurd rfl z.2, fun z => ?_⟩
      have := (rH_pos z.2).2
      rw [ct_o s i y (by omega), ct0_2] at this
      exact absurd this (by decide)
    · have e : rH (ct s x y) i = rH s i := by unfold rH; rw [ct_o s x y (by omega), ct0_o s x (by omega)]
      rw [e]
      exact ⟨fun z => z.1, fun z => ⟨z, c⟩⟩
  · show bt (N.1 2 ||| f_X4_of (nI y)) i = true ↔ _
    rw [bor_i y24 hi, t_i R hi, ct_3]
    constructor
    · rintro (z | z)
      · exact ⟨z.1, Or.inr z.2⟩
      · exact ⟨z ▸ hy, Or.inl z⟩
    · rintro ⟨p, z | z⟩
      · exact Or.inr z
      · exact Or.inl ⟨p, z⟩
  · rw [ct_o s x y (by omega), ct0_o s x (by omega)]
    exact ⟨(R.2.2.2.2.2.1 v hv).1, b v hv⟩
  · rw [ct_o s x y (by omega), ct0_o s x (by omega)]
    refine Eq.trans ?_ (R.2.2.2.2.2.2 j a c)
    show upd (upd N.1 1 _) 2 _ j = _
    rw [pk_un (by omega), pk_un (by omega)]
theorem RS.cutd (W : SH s) (R : RS N s) {x : Nat} (hx : rP s x) : RS (f_X5_cutDifference N (nI x)) (ct0 s x) := by
  have x24 := hx.1
  refine RS.flags (N' := f_X5_cutDifference N (nI x)) R W (ct0_e s x) rfl (fun i hi => ?_) (fun i hi => ?_) rfl rfl rfl (fun v hv => ?_) (fun j a c => ?_)
  · show bt (N.1 1 &&& (f_X4_of (nI x) ^^^ (-1))) i = true ↔ _
    rw [band_i x24 hi, k_i R hi]
    by_cases c : i = x
    · subst c
      refine ⟨fun z => absurd rfl z.2, fun z => ?_⟩
      have := (rH_pos z.2).2
      rw [ct0_2] at this
      exact absurd this (by decide)
    · have e : rH (ct0 s x) i = rH s i := by unfold rH; rw [ct0_o s x (by omega)]
      rw [e]
      exact ⟨fun z => z.1, fun z => ⟨z, c⟩⟩
  · show bt (N.1 2) i = true ↔ _
    rw [t_i R hi, ct0_o s x (by omega)]
    exact Iff.rfl
  · rw [ct0_o s x (by omega)]
    exact (R.2.2.2.2.2.1 v hv).1
  · rw [ct0_o s x (by omega)]
    refine Eq.trans ?_ (R.2.2.2.2.2.2 j a c)
    show upd N.1 1 _ j = _
    rw [pk_un (by omega)]
theorem cm_src (W : SH s) {v : Nat} (hv : rP s v) (g : rH s v = true) : ¬ cm (rU s) (rH s) (rU s v) v := fun c => by
  have h1 := c.1
  have h2 := ht_hg W.tr hv g
  omega
end CUT
