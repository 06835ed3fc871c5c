/-! PURE PART. ask, tried -/
section TAS
variable {N : CS} {B : Nat}
theorem OKB.up316 {s : Nat → Int32} (h : OKB N s B) : OKB (setI N 11 (N.1 11 + 1)) (upd s 316 (s 316 + 1)) B := by
  refine h.glob (fun j hj => pk_un (by omega)) (h.2.1.2.2.2.1.mod (pk_un (by decide)) (pk_un (by decide))) (fun j hj => setI_n N _ (by omega)) rfl (fun j a b => ?_)
  have g := h.2.2.1.2.2.2.2.2.2 j a b
  by_cases c : j = 11
  · subst c
    rw [setI_s, show 305 + 11 = 316 from rfl, pk_us, g]
  · rw [setI_n N _ c, pk_un (by omega), g]
def askT (S : CS) (a1 : Int32) (c : Int32) (z10 : CS) : Int32 × CS := (if ((z10.2 0) 313) < z10.1 11 then (if ((z10.2 0) ((f_X7_of a1 1)).toNatClampNeg) = ((z10.2 10) ((z10.1 11 - 1)).toNatClampNeg) then (if 0 < a1 then (bind1 (setF z10 0 (upd (z10.2 0) ((f_X7_of a1 2)).toNatClampNeg 0)) (fun z39 => (bind1 (setF z39 0 (upd (z39.2 0) ((f_X7_of a1 3)).toNatClampNeg 1)) (fun z41 => (bind1 (setF z41 0 (upd (z41.2 0) 317 (((z41.2 0) 317) + 1))) (fun z42 => ((1 + c), z42))))))) else (bind1 (setF z10 0 (upd (z10.2 0) ((f_X7_of ((z10.2 10) ((z10.1 11 - 1)).toNatClampNeg) 2)).toNatClampNeg 0)) (fun z34 => (bind1 (setF z34 0 (upd (z34.2 0) ((f_X7_of a1 3)).toNatClampNeg 1)) (fun z36 => (bind1 (setF z36 0 (upd (z36.2 0) 317 (((z36.2 0) 317) + 1))) (fun z37 => ((1 + c), z37)))))))) else (bind1 (setF z10 0 (upd (z10.2 0) ((f_X7_of ((z10.2 10) ((z10.1 11 - 1)).toNatClampNeg) 2)).toNatClampNeg 0)) (fun z28 => (bind1 (setF z28 0 (upd (z28.2 0) ((f_X7_of a1 3)).toNatClampNeg 1)) (fun z30 => (bind1 (setF z30 0 (upd (z30.2 0) 317 (((z30.2 0) 317) + 1))) (fun z31 => ((1 + c), z31)))))))) else (if a1 = (f_X7_rootOf S a1) then ((1 + c), z10) else (if ((z10.2 0) 312) = 1 then (bind1 (f_X7_becomesRoot z10 a1) (fun z15 => (bind1 (setF z15 0 (upd (z15.2 0) 316 (((z15.2 0) 316) + 1))) (fun z16 => ((1 + c), z16))))) else (if ((z10.2 0) 312) = 2 then (if ((z10.2 0) ((f_X7_of (f_X7_rootOf S a1) 4)).toNatClampNeg) < ((z10.2 0) ((f_X7_of a1 4)).toNatClampNeg) then (bind1 (f_X7_becomesRoot z10 a1) (fun z22 => (bind1 (setF z22 0 (upd (z22.2 0) 316 (((z22.2 0) 316) + 1))) (fun z23 => ((1 + c), z23))))) else ((1 + c), z10)) else ((1 + c), z10)))))
def askO (S : CS) (a1 : Int32) (z10 : CS) : Prop := ((((z10.2 0) 313) < z10.1 11 → (vp_in (z10.1 11 - 1) 24 ∧ (vp_in (f_X7_of a1 1) 318 ∧ ((((z10.2 0) ((f_X7_of a1 1)).toNatClampNeg) = ((z10.2 10) ((z10.1 11 - 1)).toNatClampNeg) → ((0 < a1 → (vp_in (f_X7_of a1 2) 318 ∧ (bind1 (setF z10 0 (upd (z10.2 0) ((f_X7_of a1 2)).toNatClampNeg 0)) (fun z39 => (vp_in (f_X7_of a1 3) 318 ∧ (bind1 (setF z39 0 (upd (z39.2 0) ((f_X7_of a1 3)).toNatClampNeg 1)) (fun z41 => (bind1 (setF z41 0 (upd (z41.2 0) 317 (((z41.2 0) 317) + 1))) (fun z42 => True))))))))) ∧ (¬ (0 < a1) → (vp_in (f_X7_of ((z10.2 10) ((z10.1 11 - 1)).toNatClampNeg) 2) 318 ∧ (bind1 (setF z10 0 (upd (z10.2 0) ((f_X7_of ((z10.2 10) ((z10.1 11 - 1)).toNatClampNeg) 2)).toNatClampNeg 0)) (fun z34 => (vp_in (f_X7_of a1 3) 318 ∧ (bind1 (setF z34 0 (upd (z34.2 0) ((f_X7_of a1 3)).toNatClampNeg 1)) (fun z36 => (bind1 (setF z36 0 (upd (z36.2 0) 317 (((z36.2 0) 317) + 1))) (fun z37 => True))))))))))) ∧ (¬ ((z10.2 0) ((f_X7_of a1 1)).toNatClampNeg) = ((z10.2 10) ((z10.1 11 - 1)).toNatClampNeg) → (vp_in (f_X7_of ((z10.2 10) ((z10.1 11 - 1)).toNatClampNeg) 2) 318 ∧ (bind1 (setF z10 0 (upd (z10.2 0) ((f_X7_of ((z10.2 10) ((z10.1 11 - 1)).toNatClampNeg) 2)).toNatClampNeg 0)) (fun z28 => (vp_in (f_X7_of a1 3) 318 ∧ (bind1 (setF z28 0 (upd (z28.2 0) ((f_X7_of a1 3)).toNatClampNeg 1)) (fun z30 => (bind1 (setF z30 0 (upd (z30.2 0) 317 (((z30.2 0) 317) + 1))) (fun z31 => True))))))))))))) ∧ (¬ ((z10.2 0) 313) < z10.1 11 → ((a1 = (f_X7_rootOf S a1) → True) ∧ (¬ (a1 = (f_X7_rootOf S a1)) → ((((z10.2 0) 312) = 1 → ((o_X7_becomesRoot z10 a1) ∧ (bind1 (f_X7_becomesRoot z10 a1) (fun z15 => (bind1 (setF z15 0 (upd (z15.2 0) 316 (((z15.2 0) 316) + 1))) (fun z16 => True)))))) ∧ (¬ ((z10.2 0) 312) = 1 → ((((z10.2 0) 312) = 2 → (vp_in (f_X7_of a1 4) 318 ∧ (vp_in (f_X7_of (f_X7_rootOf S a1) 4) 318 ∧ ((((z10.2 0) ((f_X7_of (f_X7_rootOf S a1) 4)).toNatClampNeg) < ((z10.2 0) ((f_X7_of a1 4)).toNatClampNeg) → ((o_X7_becomesRoot z10 a1) ∧ (bind1 (f_X7_becomesRoot z10 a1) (fun z22 => (bind1 (setF z22 0 (upd (z22.2 0) 316 (((z22.2 0) 316) + 1))) (fun z23 => True)))))) ∧ (¬ ((z10.2 0) ((f_X7_of (f_X7_rootOf S a1) 4)).toNatClampNeg) < ((z10.2 0) ((f_X7_of a1 4)).toNatClampNeg) → True))))) ∧ (¬ ((z10.2 0) 312) = 2 → True))))))))
def askX (a1 : Int32) (z5 : Int32 × CS) : CS := (bind1 (setF z5.2 0 (upd (z5.2.2 0) ((f_X7_of a1 4)).toNatClampNeg (((z5.2.2 0) ((f_X7_of a1 4)).toNatClampNeg) + 1))) (fun z8 => (bind1 (setF z8 0 (upd (z8.2 0) 314 (((z8.2 0) 314) + 1))) (fun z9 => (setF z9 0 (upd (z9.2 0) 315 (((z9.2 0) 315) + (1 + z5.1))))))))
theorem asks_e {S : CS} {a1 : Int32} (h : f_X7_isVersion S a1 = true) : f_X7_asks S a1 = askT S a1 (f_X7_cellsBetween S (f_X7_rootOf S a1) a1).1 (askX a1 (f_X7_cellsBetween S (f_X7_rootOf S a1) a1)) := by
  unfold f_X7_asks
  rw [if_pos h]
  generalize f_X7_cellsBetween S (f_X7_rootOf S a1) a1 = z5
  rfl
theorem asks_oe {S : CS} {a1 : Int32} (h0 : o_X7_isVersion S a1) (h1 : o_X7_rootOf S a1) (h2 : o_X7_cellsBetween S (f_X7_rootOf S a1) a1) (h3 : vp_in (f_X7_of a1 4) 318) (h4 : askO S a1 (askX a1 (f_X7_cellsBetween S (f_X7_rootOf S a1) a1))) : o_X7_asks S a1 := ⟨h0, fun _ => ⟨h1, h2, h3, h3, h4⟩, fun _ => trivial⟩
theorem t_ask {S : CS} (h : OKB N (S.2 0) B) (M E : CS) (a : Int32) : o_X7_asks S a ∧ (f_X6_tryAsk M N E a).1 = (f_X7_asks S a).1 ∧ OKB (f_X6_tryAsk M N E a).2.1 ((f_X7_asks S a).2.2 0) (B + 1) ∧ chg S (f_X7_asks S a).2 := by
  have K := h.toS
  have W := h.1
  have L := h.2.1
  have R := h.2.2.1
  rcases ver_c K a with ⟨q1, q2, q3⟩ | ⟨v, hv, rfl, q1, q2, q3⟩
  · unfold o_X7_asks f_X6_tryAsk f_X7_asks
    rw [q1, q3]
    exact ⟨⟨q2, fun k => (by cases k), fun _ => trivial⟩, rfl, h.mono (Nat.le_succ B), chg.rf S⟩
  · rw [asks_e q3]
    have oe := asks_oe (S := S) (a1 := nI v) q2
    unfold f_X6_tryAsk
    rw [q1, if_pos rfl]
    obtain ⟨w, w1, w2, o1, e1, hr⟩ := root_c K hv
    have w24 := w1.1.1
    have v24 := hv.1
    have hE := spread_n W R hv E
    have dl : yD (S.2 0) w v ≤ 23 := DD_le W.tr w1.1 hv w2
    obtain ⟨m, m1, m2, m3⟩ := L.2.2.2.1.2
    simp only [bind1]
    rw [e1] at oe ⊢
    generalize f_X2_spread E N (nI v) = E' at *
    rw [hr E' hE, (steps_n hE ⟨w1.1, w2⟩).1, (steps_n hE ⟨w1.1, w2⟩).2]
    obtain ⟨o2, s1, l1, l2, l3⟩ := lay_n W w1.1 hv w2
    have ecb : f_X7_cellsBetween S (nI w) (nI v) = ((f_X7_layWay S (nI w) (nI v)).1 12, f_X7_layWay S (nI w) (nI v)) := rfl
    have ocb : o_X7_cellsBetween S (nI w) (nI v) := ⟨o2, trivial⟩
    have oe := oe o1 ocb (vi4 v24)
    clear ocb
    rw [ecb] at oe ⊢
    generalize f_X7_layWay S (nI w) (nI v) = Z at *
    have z0 : Z.2 0 = S.2 0 := s1.2 0 (by decide)
    rw [l2] at oe ⊢
    obtain ⟨X, hX⟩ : ∃ X, X = askX (nI v) (nI (yC (S.2 0) w v), Z) := ⟨_, rfl⟩
    rw [← hX] at oe ⊢
    unfold askX at hX
    simp only [bind1] at hX
    rw [cl4 v24] at hX
    have x0 : X.2 0 = nt (S.2 0) v (1 + nI (yC (S.2 0) w v)) := by
      rw [hX, setF_s, setF_s, setF_s, z0]
      rfl
    have x1 : X.1 11 = nI (yD (S.2 0) w v) := by
      rw [hX]
      exact l1
    have x10 : ∀ k, k ≤ yD (S.2 0) w v → X.2 10 k = nI (yP (S.2 0) w v k) := by
      rw [hX]
      exact l3
    have cX : chg S X := by
      rw [hX]
      exact (((chg.sw s1).F _).F _).F _
    clear hX
    have H1 : OKB (f_X5_noteAsking N (nI v) (1 + nI (yC (S.2 0) w v))) (X.2 0) (B + 1) := by
      rw [x0]
      exact h.noted hv _
    have n8 : (f_X5_noteAsking N (nI v) (1 + nI (yC (S.2 0) w v))).1 8 = nI m := by
      rw [← m3]
      exact R.2.2.2.2.2.2 8 (by decide) (by decide)
    have x313 : X.2 0 313 = nI m := by rw [x0, nt_o _ _ _ (by omega) (by omega) (by omega), m3]
    have q : nI m < nI (yD (S.2 0) w v) ↔ m < yD (S.2 0) w v := nI_ltI (by omega) (by omega)
    unfold askT
    unfold askO at oe
    simp only [bind1] at oe ⊢
    rw [e1] at oe ⊢
    rw [x1, x313, cl1 v24] at oe ⊢
    rw [n8]
    by_cases c : m < yD (S.2 0) w v
    · have hD : yD (S.2 0) w v = yD (S.2 0) w v - 1 + 1 := by omega
      have eD : nI (yD (S.2 0) w v) - 1 = nI (yD (S.2 0) w v - 1) := by
        rw [hD, nI_pred]
        rfl
      have tw := toward_n W w1.1 hv w2 (show yD (S.2 0) w v - 1 ≤ yD (S.2 0) w v by omega) hE
      have xl := x10 (yD (S.2 0) w v - 1) (by omega)
      obtain ⟨pl, hl⟩ := way_last W w1.1 hv w2 (show 0 < yD (S.2 0) w v by omega)
      have tl := (PP_P W.tr w1.1 hv w2 (k := yD (S.2 0) w v - 1) (show yD (S.2 0) w v - 1 ≤ yD (S.2 0) w v by omega)).2
      have tl : rT (S.2 0) (yP (S.2 0) w v (yD (S.2 0) w v - 1)) = rT (S.2 0) v := tl
      have xv : X.2 0 (13 * v + 1) = S.2 0 (13 * v + 1) := by rw [x0, nt_o _ _ _ (by omega) (by omega) (by omega)]
      rw [if_pos (q.mpr c), if_pos (q.mpr c)]
      rw [eD, nI_clamp (by omega), xl, xv] at oe ⊢
      rw [tw]
      have v0i : (0 < nI v) ↔ 0 < v := nI_ltI (a := 0) (by decide) (by omega)
      have vz : nI v = 0 ↔ v = 0 := nI_eq (b := 0) (by omega) (by decide)
      have vD : vp_in (nI (yD (S.2 0) w v - 1)) 24 := vp_in_nI (by omega) (by decide)
      generalize yP (S.2 0) w v (yD (S.2 0) w v - 1) = l at *
      have l24 := pl.1
      rw [cl2 v24, cl2 l24, cl3 v24]
      have so : 0 < v → f_X5_sourceOf (f_X5_noteAsking N (nI v) (1 + nI (yC (S.2 0) w v))) (nI v) = nI (rU (S.2 0) v) := fun v0 => src_s R hv v0
      rcases hl with ⟨g, b, nc⟩ | ⟨g, b, cw, nv, ne⟩
      · have v0 := (rH_pos g).1
        have sl : S.2 0 (13 * v + 1) = nI l := by rw [src_n W hv v0, b]
        have cb : f_X5_cutBetween (f_X5_noteAsking N (nI v) (1 + nI (yC (S.2 0) w v))) (nI v) (nI l) = f_X5_cutDifference (f_X5_noteAsking N (nI v) (1 + nI (yC (S.2 0) w v))) (nI v) := by
          unfold f_X5_cutBetween
          rw [if_neg (fun z => absurd (vz.mp z) (by omega)), if_pos ((so v0).trans (congrArg nI b))]
          rfl
        have H := h.askcut hv (1 + nI (yC (S.2 0) w v)) hv g w1 w2 rfl ⟨fun _ => nc, fun _ => cm_refl v⟩
        rw [if_pos sl, if_pos (v0i.mpr v0), cb]
        refine ⟨oe ⟨fun _ => ⟨vD, vi1 v24, fun _ => ⟨fun _ => ⟨vi2 v24, vi3 v24, trivial⟩, fun k => absurd (v0i.mpr v0) k⟩, fun k => absurd sl k⟩, fun k => absurd (q.mpr c) k⟩, rfl, ?_, ((cX.F _).F _).F _⟩
        rw [← x0] at H
        exact H
      · have ns : ¬ S.2 0 (13 * v + 1) = nI l := by
          by_cases v0 : 0 < v
          · rw [src_n W hv v0, nI_eq (by have := (W.2.2.1 v v0 hv).2.1; omega) (by omega)]
            exact ne v0
          · have : v = 0 := by omega
            subst this
            rw [show 13 * 0 + 1 = 1 from rfl, L.2.2.2.2]
            intro z
            exact nI_pos (show l < 2 ^ 31 by omega) (z ▸ (show (-5 : Int32) < 0 by decide))
        have cb : f_X5_cutBetween (f_X5_noteAsking N (nI v) (1 + nI (yC (S.2 0) w v))) (nI v) (nI l) = f_X5_cutDifference (f_X5_noteAsking N (nI v) (1 + nI (yC (S.2 0) w v))) (nI l) := by
          unfold f_X5_cutBetween
          by_cases v0 : v = 0
          · rw [if_pos (vz.mpr v0)]
            rfl
          · rw [if_neg (fun z => v0 (vz.mp z)), if_neg]
            · rfl
            · rw [so (by omega), nI_eq (by have := (W.2.2.1 v (by omega) hv).2.1; omega) (by omega)]
              exact ne (by omega)
        have H := h.askcut hv (1 + nI (yC (S.2 0) w v)) pl g w1 (w2.trans tl.symm) tl.symm ⟨fun z => absurd z nv, fun z => absurd cw z⟩
        rw [if_neg ns, cb]
        refine ⟨oe ⟨fun _ => ⟨vD, vi1 v24, fun k => absurd k ns, fun _ => ⟨vi2 l24, vi3 v24, trivial⟩⟩, fun k => absurd (q.mpr c) k⟩, rfl, ?_, ((cX.F _).F _).F _⟩
        rw [← x0] at H
        exact H
    · rw [if_neg (fun z => c (q.mp z)), if_neg (fun z => c (q.mp z))]
      have hvX : rP (X.2 0) v := by rw [x0]; exact (rP_3 (nt_e _ _ _)).mpr hv
      have hwX : rP (X.2 0) w := by rw [x0]; exact (rP_3 (nt_e _ _ _)).mpr w1.1
      obtain ⟨w', w1', w2', o1', e1', -⟩ := root_c H1.toS hvX
      have f3 : ∀ u, u < 24 → X.2 0 (13 * u + 3) = S.2 0 (13 * u + 3) := fun u hu => by rw [x0, nt_o _ _ _ (by omega) (by omega) (by omega)]
      have fT : ∀ u, rP (S.2 0) u → rT (X.2 0) u = rT (S.2 0) u := fun u hu => (tree_congr W.tr (fun u hu => by
        have := hu.1
        unfold rH
        rw [x0, nt_o _ _ _ (by omega) (by omega) (by omega)]) (fun u hu _ => by rw [x0]; exact rU_3 (nt_e _ _ _) hu.1) _ u hu (Nat.le_refl _)).2.1
      have rX : ∀ u, rR (X.2 0) u → rR (S.2 0) u := fun u hu => ⟨by rw [x0] at hu; exact (rP_3 (nt_e _ _ _)).mp hu.1, by rw [← f3 u hu.1.1]; exact hu.2⟩
      have ew : w' = w := L.2.2.1 w' w (rX w' w1') w1 (by
        rw [fT w' (rX w' w1').1, fT v hv] at w2'
        exact w2'.trans w2.symm)
      obtain ⟨ob, eb⟩ := becomes_n v24 w24 o1' (e1'.trans (congrArg nI ew))
      have H2 := H1.moved (w := w) (x := v) ⟨hwX, by rw [f3 w w24]; exact w1.2⟩ hvX (by rw [fT w w1.1, fT v hv]; exact w2)
      have H3 := H2.up316
      have n7 : (f_X5_noteAsking N (nI v) (1 + nI (yC (S.2 0) w v))).1 7 = X.2 0 312 := H1.2.2.1.2.2.2.2.2.2 7 (by decide) (by decide)
      have g3 := H1.2.1.2.2.2.1.1
      have wv : nI v = nI w ↔ v = w := nI_eq (by omega) (by omega)
      have wv' : nI w = nI v ↔ v = w := ⟨fun z => wv.mp z.symm, fun z => (wv.mpr z).symm⟩
      have pf : f_X6_rulePrefers M (f_X5_noteAsking N (nI v) (1 + nI (yC (S.2 0) w v))) (nI v) (nI w) = (if X.2 0 312 = 0 then false else (if X.2 0 312 = 1 then true else (if X.2 0 (13 * w + 4) < X.2 0 (13 * v + 4) then true else false))) := by
        unfold f_X6_rulePrefers
        rw [n7, asked_n H1.2.2.1 hvX, asked_n H1.2.2.1 hwX]
      rw [eb, cl4 w24, cl4 v24]
      rw [pf]
      refine ⟨oe ⟨fun k => absurd (q.mp k) c, fun _ => ⟨fun _ => trivial, fun _ => ⟨fun _ => ⟨ob, trivial⟩, fun _ => ⟨fun _ => ⟨vi4 v24, vi4 w24, fun _ => ⟨ob, trivial⟩, fun _ => trivial⟩, fun _ => trivial⟩⟩⟩⟩, ?_⟩
      by_cases d : v = w
      · rw [if_pos (wv.mpr d), if_pos (wv'.mpr d)]
        exact ⟨rfl, H1, cX⟩
      · rw [if_neg (fun z => d (wv.mp z)), if_neg (fun z => d (wv'.mp z))]
        have z00 : (setF (setF X 0 (upd (X.2 0) (13 * w + 3) 0)) 0 (mv (X.2 0) w v)).2 0 = mv (X.2 0) w v := setF_s _ _ _
        have c2 : chg S (setF (setF X 0 (upd (X.2 0) (13 * w + 3) 0)) 0 (mv (X.2 0) w v)) := (cX.F _).F _
        rw [z00]
        rcases g3 with g | g | g
        · rw [g, if_pos rfl, if_neg (show ¬ (0 : Int32) = 1 by decide), if_neg (show ¬ (0 : Int32) = 2 by decide), if_neg (by decide)]
          exact ⟨rfl, H1, cX⟩
        · rw [g, if_neg (show ¬ (1 : Int32) = 0 by decide), if_pos rfl, if_pos rfl, if_pos rfl]
          exact ⟨rfl, H3, c2.F _⟩
        · rw [g, if_neg (show ¬ (2 : Int32) = 0 by decide), if_neg (show ¬ (2 : Int32) = 1 by decide), if_neg (show ¬ (2 : Int32) = 1 by decide), if_pos (show (2 : Int32) = 2 from rfl)]
          by_cases y : X.2 0 (13 * w + 4) < X.2 0 (13 * v + 4)
          · rw [if_pos y, if_pos y, if_pos rfl]
            exact ⟨rfl, H3, c2.F _⟩
          · rw [if_neg y, if_neg y, if_neg (by decide)]
            exact ⟨rfl, H1, cX⟩
end TAS
theorem sim_ask (M : CS) (N : CS) (F : CS) (P : CS) (Q : HS) (E : CS) (O : CS) (S : CS) (n : Nat) (a1 : Int32) (h : REL M N F P Q E O S n) (hn : n < 512) : (o_X6_ask M N F Q E a1) ∧ (o_X7_ask S a1) ∧ (f_X6_ask M N F Q E a1).1 = (f_X7_ask S a1).1 ∧ REL M ((f_X6_ask M N F Q E a1).2.1) ((f_X6_ask M N F Q E a1).2.2.1) P ((f_X6_ask M N F Q E a1).2.2.2.1) ((f_X6_ask M N F Q E a1).2.2.2.2) O ((f_X7_ask S a1).2) (n + 1) :=
  sim3 h (A := f_X6_tryAsk M N E a1) (r := fun z => f_X7_asks z a1) (oR := fun z => o_X7_asks z a1) (show 50 * n + 1 ≤ 50 * (n + 1) by omega) (t_ask (relB h) M E a1)
