/-! PURE PART. root, join -/
section MVS
variable {N : CS} {s : Nat → Int32} {B : Nat}
def mv (s : Nat → Int32) (w x : Nat) : Nat → Int32 := upd (upd s (13 * w + 3) 0) (13 * x + 3) 1
theorem mv_o (s : Nat → Int32) (w x : Nat) {j : Nat} (h : j % 13 ≠ 3) : mv s w x j = s j := by
  unfold mv
  rw [pk_un (by omega), pk_un (by omega)]
theorem mv_g (s : Nat → Int32) {w x : Nat} (hw : w < 24) (hx : x < 24) {j : Nat} (h : 312 ≤ j) : mv s w x j = s j := by
  unfold mv
  rw [pk_un (by omega), pk_un (by omega)]
theorem mv_3 (s : Nat → Int32) (w x y : Nat) : (mv s w x (13 * y + 3) = 1 ↔ (y = x ∨ (y ≠ w ∧ s (13 * y + 3) = 1))) := by
  unfold mv
  by_cases c : y = x
  · subst c
    rw [pk_us]
    exact ⟨fun _ => Or.inl rfl, fun _ => rfl⟩
  · rw [pk_un (by omega)]
    by_cases d : y = w
    · subst d
      rw [pk_us]
      exact ⟨fun z => absurd z (by decide), fun z => z.elim (fun k => absurd k c) (fun k => absurd rfl k.1)⟩
    · rw [pk_un (by omega)]
      exact ⟨fun z => Or.inr ⟨d, z⟩, fun z => z.elim (fun k => absurd k c) (fun k => k.2)⟩
theorem mv_e (s : Nat → Int32) (w x : Nat) : same3 s (mv s w x) := fun _ _ _ c _ => mv_o s w x c
theorem rU_mv (s : Nat → Int32) (w x : Nat) : rU (mv s w x) = rU s := funext fun v => by unfold rU; rw [mv_o s w x (by omega)]
theorem rH_mv (s : Nat → Int32) (w x : Nat) : rH (mv s w x) = rH s := funext fun v => by unfold rH; rw [mv_o s w x (by omega)]
theorem rT_mv (s : Nat → Int32) (w x v : Nat) : rT (mv s w x) v = rT s v := by
  show tp (rU (mv s w x)) (rH (mv s w x)) v = _
  rw [rU_mv, rH_mv]
theorem yD_mv (s : Nat → Int32) (w x u v : Nat) : yD (mv s w x) u v = yD s u v := by
  show DD (rU (mv s w x)) (rH (mv s w x)) u v = _
  rw [rU_mv, rH_mv]
theorem G3.mod {s s' : Nat → Int32} (h : G3 s) (e1 : s' 312 = s 312) (e2 : s' 313 = s 313) : G3 s' := by
  unfold G3 at *
  rw [e1, e2]
  exact h
theorem OKB.moved (h : OKB N s B) {w x : Nat} (hw : rR s w) (hx : rP s x) (t : rT s w = rT s x) : OKB (f_X5_moveRoot N (nI w) (nI x)) (mv s w x) B := by
  obtain ⟨W, L, R, b⟩ := h
  have w24 := hw.1.1
  have x24 := hx.1
  refine OKB.flags (N' := f_X5_moveRoot N (nI w) (nI x)) (B' := B) ⟨W, L, R, b⟩ (mv_e s w x) (FL.move W L (mv_e s w x) (fun v hv => mv_o s w x (by omega)) (L.2.2.2.1.mod (mv_o s w x (by decide)) (mv_o s w x (by decide))) hw hx t (fun y _ => mv_3 s w x y)) rfl (fun i hi => ?_) (fun i hi => ?_) rfl rfl rfl (fun v hv => ?_) (fun j a c => ?_)
  · show bt (N.1 1) i = true ↔ _
    rw [k_i R hi, rH_mv]
  · show bt ((N.1 2 &&& (f_X4_of (nI w) ^^^ (-1))) ||| f_X4_of (nI x)) i = true ↔ _
    rw [bor_i x24 hi, band_i w24 hi, t_i R hi, mv_3]
    constructor
    · rintro (⟨p, q⟩ | q)
      · exact ⟨p.1, Or.inr ⟨q, p.2⟩⟩
      · exact ⟨q ▸ hx, Or.inl q⟩
    · rintro ⟨p, q | ⟨q1, q2⟩⟩
      · exact Or.inr q
      · exact Or.inl ⟨⟨p, q2⟩, q1⟩
  · rw [mv_o s w x (by omega)]
    exact ⟨(R.2.2.2.2.2.1 v hv).1, b v hv⟩
  · rw [mv_g s w24 x24 (by omega)]
    refine Eq.trans ?_ (R.2.2.2.2.2.2 j a c)
    show upd (upd N.1 2 _) 2 _ j = _
    rw [pk_un (by omega), pk_un (by omega)]
theorem becomes_n {S : CS} {v w : Nat} (hv : v < 24) (hw : w < 24) (o : o_X7_rootOf S (nI v)) (e : f_X7_rootOf S (nI v) = nI w) : o_X7_becomesRoot S (nI v) ∧ f_X7_becomesRoot S (nI v) = setF (setF S 0 (upd (S.2 0) (13 * w + 3) 0)) 0 (mv (S.2 0) w v) := by
  unfold o_X7_becomesRoot f_X7_becomesRoot
  rw [e]
  simp only [bind1]
  rw [cl3 hw, cl3 hv, setF_s]
  exact ⟨⟨o, vi3 hw, vi3 hv, trivial⟩, rfl⟩
theorem t_root {S : CS} (h : OKB N (S.2 0) B) (M E : CS) (a : Int32) : o_X7_roots S a ∧ (f_X6_tryRoot M N E a).1 = (f_X7_roots S a).1 ∧ OKB (f_X6_tryRoot M N E a).2.1 ((f_X7_roots S a).2.2 0) B ∧ chg S (f_X7_roots S a).2 := by
  have K := h.toS
  have R := h.2.2.1
  have W := h.1
  unfold o_X7_roots f_X6_tryRoot f_X7_roots
  rcases ver_c K a with ⟨q1, q2, q3⟩ | ⟨v, hv, rfl, q1, q2, q3⟩
  · rw [q1, q3]
    exact ⟨⟨q2, fun k => (by cases k), fun _ => trivial⟩, rfl, h, chg.rf S⟩
  · rw [q1, q3, if_pos rfl, if_pos rfl]
    obtain ⟨w, w1, w2, o1, e1, hr⟩ := root_c K hv
    have w24 := w1.1.1
    have v24 := hv.1
    have q : nI w = nI v ↔ w = v := nI_eq (by omega) (by omega)
    rw [e1, isroot_n R hv.1]
    by_cases c : w = v
    · rw [if_pos (q.mpr c), if_pos (tB_iff.mpr (c ▸ w1))]
      exact ⟨⟨q2, fun _ => ⟨o1, fun _ => trivial, fun k => absurd (q.mpr c) k⟩, fun k => absurd rfl k⟩, rfl, h, chg.rf S⟩
    · have nr : ¬ tB (S.2 0) v = true := fun z => c (h.2.1.2.2.1 w v w1 (tB_iff.mp z) w2)
      rw [if_neg (fun z => c (q.mp z)), if_neg nr]
      obtain ⟨ob, eb⟩ := becomes_n v24 w24 o1 e1
      have hE := spread_n W R hv E
      have H := h.moved w1 hv w2
      have cz : chg S (setF (setF S 0 (upd (S.2 0) (13 * w + 3) 0)) 0 (mv (S.2 0) w v)) := ((chg.rf S).F _).F _
      have z0 : (setF (setF S 0 (upd (S.2 0) (13 * w + 3) 0)) 0 (mv (S.2 0) w v)).2 0 = mv (S.2 0) w v := setF_s _ _ _
      simp only [bind1]
      rw [eb]
      generalize f_X2_spread E N (nI v) = E' at *
      generalize setF (setF S 0 (upd (S.2 0) (13 * w + 3) 0)) 0 (mv (S.2 0) w v) = Z at *
      rw [hr _ hE, (steps_n hE ⟨w1.1, w2⟩).1]
      have WZ : SH (Z.2 0) := by rw [z0]; exact H.1
      have pv : rP (Z.2 0) v := by rw [z0]; exact (rP_3 (mv_e _ w v)).mpr hv
      have pw : rP (Z.2 0) w := by rw [z0]; exact (rP_3 (mv_e _ w v)).mpr w1.1
      have te : rT (Z.2 0) v = rT (Z.2 0) w := by rw [z0, rT_mv, rT_mv]; exact w2.symm
      obtain ⟨o2, s1, l1, -, -⟩ := lay_n WZ pv pw te
      generalize f_X7_layWay Z (nI v) (nI w) = Y at *
      have y0 : Y.2 0 = mv (S.2 0) w v := (s1.2 0 (by decide)).trans z0
      rw [z0, yD_mv] at l1
      refine ⟨⟨q2, fun _ => ⟨o1, fun k => absurd (q.mp k) c, fun _ => ⟨ob, o2, trivial⟩⟩, fun k => absurd trivial k⟩, ?_, ?_, cz.trans (chg.sw s1)⟩
      · show nI (yD (S.2 0) w v) = Y.1 11
        rw [l1]
        exact congrArg nI (DD_comm _ _ _ _)
      · show OKB (f_X5_moveRoot N (nI w) (nI v)) (Y.2 0) B
        rw [y0]
        exact H
/-! join -/
def jn (s : Nat → Int32) (w x : Nat) : Nat → Int32 := upd (upd s (13 * w + 3) 0) (13 * x + 2) 1
theorem jn_o (s : Nat → Int32) (w x : Nat) {j : Nat} (h : j % 13 ≠ 3) (h2 : j % 13 ≠ 2) : jn s w x j = s j := by
  unfold jn
  rw [pk_un (by omega), pk_un (by omega)]
theorem jn_g (s : Nat → Int32) {w x : Nat} (hw : w < 24) (hx : x < 24) {j : Nat} (h : 312 ≤ j) : jn s w x j = s j := by
  unfold jn
  rw [pk_un (by omega), pk_un (by omega)]
theorem jn_e (s : Nat → Int32) (w x : Nat) : same3 s (jn s w x) := fun _ _ b c _ => jn_o s w x c b
theorem jn_3 (s : Nat → Int32) (w x y : Nat) : (jn s w x (13 * y + 3) = 1 ↔ (y ≠ w ∧ s (13 * y + 3) = 1)) := by
  unfold jn
  rw [pk_un (by omega)]
  by_cases d : y = w
  · subst d
    rw [pk_us]
    exact ⟨fun z => absurd z (by decide), fun k => absurd rfl k.1⟩
  · rw [pk_un (by omega)]
    exact ⟨fun z => ⟨d, z⟩, fun k => k.2⟩
theorem jn_2 (s : Nat → Int32) (w x : Nat) : jn s w x (13 * x + 2) = 1 := pk_us
theorem jn_2n (s : Nat → Int32) (w x : Nat) {v : Nat} (h : v ≠ x) : jn s w x (13 * v + 2) = s (13 * v + 2) := by
  unfold jn
  rw [pk_un (by omega), pk_un (by omega)]
theorem OKB.joined (h : OKB N s B) {w x : Nat} (x0 : 0 < x) (gx : ¬ rH s x = true) (hw : rR s w) (hx : rP s x) (t : rT s w = rT s x) : OKB (f_X5_keepDifference (f_X5_dropRoot N (nI w)) (nI x)) (jn s w x) B := by
  obtain ⟨W, L, R, b⟩ := h
  have w24 := hw.1.1
  have x24 := hx.1
  refine OKB.flags (N' := f_X5_keepDifference (f_X5_dropRoot N (nI w)) (nI x)) (B' := B) ⟨W, L, R, b⟩ (jn_e s w x) (FL.join W L (jn_e s w x) x0 hx gx (fun v _ c => jn_2n s w x c) (jn_2 s w x) (L.2.2.2.1.mod (jn_o s w x (by decide) (by decide)) (jn_o s w x (by decide) (by decide))) hw t (fun y _ => jn_3 s w x y)) rfl (fun i hi => ?_) (fun i hi => ?_) rfl rfl rfl (fun v hv => ?_) (fun j a c => ?_)
  · show bt (N.1 1 ||| f_X4_of (nI x)) i = true ↔ _
    rw [bor_i x24 hi, k_i R hi]
    by_cases c : i = x
    · subst c
      refine ⟨fun _ => ⟨hx, ?_⟩, fun _ => Or.inr rfl⟩
      unfold rH
      rw [jn_2]
      simp [x0]
    · have e : rH (jn s w x) i = rH s i := by unfold rH; rw [jn_2n s w x c]
      rw [e]
      exact ⟨fun z => z.elim id (fun k => absurd k c), Or.inl⟩
  · show bt (N.1 2 &&& (f_X4_of (nI w) ^^^ (-1))) i = true ↔ _
    rw [band_i w24 hi, t_i R hi, jn_3]
    exact ⟨fun z => ⟨z.1.1, z.2, z.1.2⟩, fun z => ⟨⟨z.1, z.2.2⟩, z.2.1⟩⟩
  · rw [jn_o s w x (by omega) (by omega)]
    exact ⟨(R.2.2.2.2.2.1 v hv).1, b v hv⟩
  · rw [jn_g s w24 x24 (by omega)]
    refine Eq.trans ?_ (R.2.2.2.2.2.2 j a c)
    show upd (upd N.1 2 _) 1 _ j = _
    rw [pk_un (by omega), pk_un (by omega)]
theorem t_join {S : CS} (h : OKB N (S.2 0) B) (M E : CS) (a : Int32) : o_X7_joins S a ∧ (f_X6_tryJoin M N E a).1 = (f_X7_joins S a).1 ∧ OKB (f_X6_tryJoin M N E a).2.1 ((f_X7_joins S a).2.2 0) B ∧ chg S (f_X7_joins S a).2 := by
  have K := h.toS
  have R := h.2.2.1
  have W := h.1
  unfold o_X7_joins f_X6_tryJoin f_X7_joins
  rcases ver_c K a with ⟨q1, q2, q3⟩ | ⟨v, hv, rfl, q1, q2, q3⟩
  · rw [q1, q3]
    exact ⟨⟨q2, fun k => (by cases k), fun _ => trivial⟩, rfl, h, chg.rf S⟩
  · rw [q1, q3, if_pos rfl, if_pos rfl]
    have v24 := hv.1
    have q : nI v = 0 ↔ v = 0 := nI_eq (b := 0) (by omega) (by decide)
    obtain ⟨oh, eh⟩ := hangs_n (S := S) hv.1
    by_cases c : v = 0
    · rw [if_pos (q.mpr c), if_pos (q.mpr c)]
      exact ⟨⟨q2, fun _ => ⟨fun _ => trivial, fun k => absurd (q.mpr c) k⟩, fun k => absurd rfl k⟩, rfl, h, chg.rf S⟩
    · rw [if_neg (fun z => c (q.mp z)), if_neg (fun z => c (q.mp z)), kept_n R hv, eh]
      by_cases g : rH (S.2 0) v = true
      · rw [if_pos g, if_pos g]
        exact ⟨⟨q2, fun _ => ⟨fun _ => trivial, fun _ => ⟨oh, fun _ => trivial, fun k => absurd g k⟩⟩, fun k => absurd rfl k⟩, rfl, h, chg.rf S⟩
      · rw [if_neg g, if_neg g]
        obtain ⟨w, w1, w2, o1, e1, hr⟩ := root_c K hv
        have w24 := w1.1.1
        have hE := spread_n W R hv E
        have H := h.joined (by omega) g w1 hv w2
        have cz : chg S (setF (setF S 0 (upd (S.2 0) (13 * w + 3) 0)) 0 (jn (S.2 0) w v)) := ((chg.rf S).F _).F _
        have z0 : (setF (setF S 0 (upd (S.2 0) (13 * w + 3) 0)) 0 (jn (S.2 0) w v)).2 0 = jn (S.2 0) w v := setF_s _ _ _
        simp only [bind1]
        rw [e1, cl3 w24, cl2 v24, setF_s, hr _ hE]
        show _ ∧ (f_X5_trees (f_X5_keepDifference (f_X5_dropRoot N (nI w)) (nI v)) = f_X7_versions (setF (setF S 0 (upd (S.2 0) (13 * w + 3) 0)) 0 (jn (S.2 0) w v)) 1 ∧ OKB (f_X5_keepDifference (f_X5_dropRoot N (nI w)) (nI v)) ((setF (setF S 0 (upd (S.2 0) (13 * w + 3) 0)) 0 (jn (S.2 0) w v)).2 0) B ∧ chg S (setF (setF S 0 (upd (S.2 0) (13 * w + 3) 0)) 0 (jn (S.2 0) w v)))
        have o3 : o_X7_versions (setF (setF S 0 (upd (S.2 0) (13 * w + 3) 0)) 0 (jn (S.2 0) w v)) 1 := vers1.1
        refine ⟨⟨q2, fun _ => ⟨fun k => absurd (q.mp k) c, fun _ => ⟨oh, fun k => absurd k g, fun _ => ⟨o1, vi3 w24, vi2 v24, o3, trivial⟩⟩⟩, fun k => absurd trivial k⟩, ?_, ?_, cz⟩
        · generalize setF (setF S 0 (upd (S.2 0) (13 * w + 3) 0)) 0 (jn (S.2 0) w v) = Z at *
          refine trees_n ?_
          rw [z0]
          exact H.2.2.1
        · rw [z0]
          exact H
end MVS
