/-! PURE PART. cut, the act -/
section CUS
variable {N : CS} {B : Nat}
theorem t_cut {S : CS} (h : OKB N (S.2 0) B) {v : Nat} (hv : rP (S.2 0) v) (v0 : 0 < v) (g : rH (S.2 0) v = true) (M E : CS) : o_X7_cuts S (nI v) ∧ ∃ Z, f_X7_cuts S (nI v) = (f_X5_trees (f_X6_giveRoot M (f_X5_cutDifference N (nI v)) E (nI v) (f_X5_sourceOf (f_X5_cutDifference N (nI v)) (nI v))).1, Z) ∧ chg S Z ∧ OKB (f_X6_giveRoot M (f_X5_cutDifference N (nI v)) E (nI v) (f_X5_sourceOf (f_X5_cutDifference N (nI v)) (nI v))).1 (Z.2 0) B := by
  have K := h.toS
  have W := h.1
  have L := h.2.1
  have R := h.2.2.1
  have v24 := hv.1
  have hu := (W.2.2.1 v v0 hv).2
  have u24 := hu.1
  obtain ⟨w, w1, w2, -⟩ := root_c K hv
  have w24 := w1.1.1
  have W' := W.s3 (ct0_e (S.2 0) v)
  have R' := RS.cutd W R hv
  have hv' : rP (ct0 (S.2 0) v) v := (rP_3 (ct0_e (S.2 0) v)).mpr hv
  have es : f_X5_sourceOf (f_X5_cutDifference N (nI v)) (nI v) = nI (rU (S.2 0) v) := src_s R hv v0
  have hE := spread_n W' R' hv' E
  obtain ⟨c1, c2⟩ := cut_roots W L hv g w1 w2
  obtain ⟨q2, q3⟩ := ver_n (S := S) v24
  have q3 : f_X7_isVersion S (nI v) = true := q3.trans (decide_eq_true hv.2)
  obtain ⟨oh, eh⟩ := hangs_n (S := S) v24
  have qv : ¬ nI v = 0 := nI_ne0 v0 (by omega)
  obtain ⟨Z, hZ⟩ : ∃ Z, Z = setF S 0 (upd (S.2 0) (13 * v + 2) 0) := ⟨_, rfl⟩
  have z0 : Z.2 0 = ct0 (S.2 0) v := by rw [hZ]; exact setF_s _ _ _
  have cz : chg S Z := by rw [hZ]; exact (chg.rf S).F _
  have sv : Z.2 0 (13 * v + 1) = nI (rU (S.2 0) v) := by
    rw [z0, ct0_o _ _ (by omega)]
    exact src_n W hv v0
  obtain ⟨o1, f1, f2⟩ := root_n (S := Z) (v := v) (by rw [z0]; exact W') (by rw [z0]; exact hv')
  rw [z0] at f1 f2
  unfold o_X7_cuts f_X7_cuts f_X6_giveRoot
  rw [es, q3, if_pos rfl, if_neg qv, eh, if_pos g]
  simp only [bind1]
  rw [cl2 v24, ← hZ, cl1 v24, cl3 v24, sv, cl3 u24]
  generalize f_X2_spread E (f_X5_cutDifference N (nI v)) (nI v) = E' at *
  have fin : ∀ y, y < 24 → OKB (f_X5_addRoot (f_X5_cutDifference N (nI v)) (nI y)) (ct (S.2 0) v y) B → (setF Z 0 (upd (Z.2 0) (13 * y + 3) 1)).2 0 = ct (S.2 0) v y ∧ o_X7_versions (setF Z 0 (upd (Z.2 0) (13 * y + 3) 1)) 1 ∧ f_X7_versions (setF Z 0 (upd (Z.2 0) (13 * y + 3) 1)) 1 = f_X5_trees (f_X5_addRoot (f_X5_cutDifference N (nI v)) (nI y)) ∧ chg S (setF Z 0 (upd (Z.2 0) (13 * y + 3) 1)) := by
    intro y hy H
    have e : (setF Z 0 (upd (Z.2 0) (13 * y + 3) 1)).2 0 = ct (S.2 0) v y := by rw [setF_s, z0]; rfl
    refine ⟨e, vers1.1, (trees_n ?_).symm, cz.F _⟩
    rw [e]
    exact H.2.2.1
  by_cases c : cm (rU (S.2 0)) (rH (S.2 0)) w v
  · obtain ⟨d1, d2⟩ := c1 c
    have er : f_X7_rootOf Z (nI v) = nI w := f1 w (rR_ct0.mpr w1) d1 d2
    have ne : ¬ nI w = -5 := fun z => nI_pos (show w < 2 ^ 31 by omega) (z ▸ (show (-5 : Int32) < 0 by decide))
    have nz : ¬ (E'.1 0 &&& (f_X5_cutDifference N (nI v)).1 2) = 0 := fun z => by
      have b1 : bt (E'.1 0) w = true := (hE.1 w (by omega)).mpr ⟨(rR_ct0.mpr w1).1, d1⟩
      have b2 : bt ((f_X5_cutDifference N (nI v)).1 2) w = true := (t_i R' (by omega)).mpr (rR_ct0.mpr w1)
      have b3 := bt_and (E'.1 0) ((f_X5_cutDifference N (nI v)).1 2) w
      rw [z, bt_0, b1, b2] at b3
      exact absurd b3 (by decide)
    have H := OKB.cutted h hv g w1 w2 hu (tp_up W.tr hv g) ⟨fun z => absurd z (cm_src W hv g), fun z => absurd c z⟩
    obtain ⟨e1, e2, e3, e4⟩ := fin _ u24 H
    rw [er, if_neg ne, if_neg nz, e3]
    refine ⟨⟨q2, fun _ => ⟨fun k => absurd k qv, fun _ => ⟨oh, fun _ => ⟨vi2 v24, vi1 v24, o1, fun k => absurd k ne, fun _ => ⟨vi3 u24, e2, trivial⟩⟩, fun k => absurd g k⟩⟩, fun k => absurd trivial k⟩, _, rfl, e4, ?_⟩
    rw [e1]
    exact H
  · have er : f_X7_rootOf Z (nI v) = -5 := f2 (c2 c)
    have nz : (E'.1 0 &&& (f_X5_cutDifference N (nI v)).1 2) = 0 := bt_ext (fun i hi => by
      rw [bt_and, bt_0]
      cases b1 : bt (E'.1 0) i with
      | false => rfl
      | true =>
        cases b2 : bt ((f_X5_cutDifference N (nI v)).1 2) i with
        | false => rfl
        | true => exact absurd ((hE.1 i hi).mp b1).2 (c2 c i ((t_i R' hi).mp b2)))
    have H := OKB.cutted h hv g w1 w2 hv rfl ⟨fun _ => c, fun _ => cm_refl v⟩
    obtain ⟨e1, e2, e3, e4⟩ := fin _ v24 H
    rw [er, if_pos rfl, if_pos nz, e3]
    refine ⟨⟨q2, fun _ => ⟨fun k => absurd k qv, fun _ => ⟨oh, fun _ => ⟨vi2 v24, vi1 v24, o1, fun _ => ⟨vi3 v24, e2, trivial⟩, fun k => absurd rfl k⟩, fun k => absurd g k⟩⟩, fun k => absurd trivial k⟩, _, rfl, e4, ?_⟩
    rw [e1]
    exact H
end CUS
