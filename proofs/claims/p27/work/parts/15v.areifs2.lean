/-! PURE PART. areIfsSo, from its beginning -/
theorem RES.of {s : Nat → Int32} {B : Nat} {o o' : Prop} {r : Bool × CS × CS × HS × CS} (h : RES s B o r) (i : o → o') : RES s B o' r := ⟨i h.1, h.2⟩
section ROOMS
variable {s : Nat → Int32}
theorem rW_3 (W : SH s) {s' : Nat → Int32} (e : same3 s s') {i : Nat} (hi : rP s i) (i0 : 0 < i) : rW s' i = rW s i := by
  have hu := (W.2.2.1 i i0 hi).2
  unfold rW
  rw [rU_3 e hi.1]
  exact cntB_congr (fun c hc => un_3 e hi.1 hu.1 hc)
theorem pB_3 {s' : Nat → Int32} (e : same3 s s') (i : Nat) : pB s' i = pB s i := by
  rw [Bool.eq_iff_iff, pB_iff, pB_iff]
  exact rP_3 e
/-- two rows that differ in one difference and one root -/
theorem room_ud (W : SH s) {s' : Nat → Int32} (e : same3 s s') {v y : Nat} (hv : rP s v) (v0 : 0 < v) (g : rH s v = true) (g' : ¬ rH s' v = true) (ho : ∀ i, i ≠ v → rH s' i = rH s i) (t : cntB (tB s') 24 = cntB (tB s) 24 + 1) : SM (gw s') 24 + (1 + 2 * rW s v) = SM (gw s) 24 + 8 := by
  have pe := pB_3 e
  have k : SM (kw s) 24 = SM (kw s') 24 + (1 + 2 * rW s v) := by
    refine SM_up (v := v) ?_ (fun i hi => ?_) hv.1
    · unfold kw
      rw [pe, pB_iff.mpr hv, g, if_pos (show (true && true) = true from rfl), if_neg (by simpa using g'), Nat.zero_add]
    · unfold kw
      rw [pe, ho i hi]
      by_cases c : (pB s i && rH s i) = true
      · obtain ⟨c1, c2⟩ := Bool.and_eq_true_iff.mp c
        rw [if_pos c, if_pos c, rW_3 W e (pB_iff.mp c1) (rH_pos c2).1]
      · rw [if_neg c, if_neg c]
  rw [SM_gw, SM_gw, t, k]
  omega
end ROOMS
/-- not by rfl: the kernel then has nothing to unfold -/
theorem b1n {α : Type} {β : Sort _} (x : α) (f : α → β) : bind1 x f = f x := Eq.trans (Eq.refl _) (Eq.refl _)
section IFS2
variable {N1 : CS} {s s1 : Nat → Int32} {B : Nat}
set_option maxHeartbeats 16000000 in
theorem ifs244 {N2 : CS} {s2 : Nat → Int32} (h2 : OKB N2 s2 B) {v u A : Nat} (hv : rP s v) (hu : rP s u) {Q2 : HS} (un : UND s B (A + 1) N2 Q2) (hA : A ≤ 1) (M O F2 E : CS) (z3 : Int32 × CS) (h3 : z3.1 = csum s v 24) (N1 : CS) (hr : nI (SM (gw s2) 24) = f_X6_ifCut M N1 (nI v)) : RES s B (oj_L_areIfsSo_244 M O (nI v) (nI u) z3 (nI A) N1 1 E F2 N2 Q2 (nI (cntB (tB s2) 24))) (j_L_areIfsSo_244 M O (nI v) (nI u) z3 (nI A) N1 1 E F2 N2 Q2 (nI (cntB (tB s2) 24))) := by
  have K := h2.toS
  have n10 : ¬ (1 : Int32) = 0 := by decide
  have e := ifs281 hv hu M F2 E N2 Q2 z3 h3 (show A + 1 ≤ 2 by omega) un
  unfold oj_L_areIfsSo_244 j_L_areIfsSo_244
  simp only [n10, cnt2 K, cnt1 K, hr, bind1, j_L_areIfsSo_276, oj_L_areIfsSo_276, nI_1, ↓reduceIte, if_true, if_false, true_and, not_true_eq_false, not_false_eq_true, Bool.false_eq_true, true_implies, false_implies, and_true]
  exact e
set_option maxHeartbeats 16000000 in
theorem ifs196 (h1 : OKB N1 s1 B) (eq : EQR s s1) {v u A : Nat} (hv : rP s v) (hu : rP s u) (a : RO s1 v v) {Q1 : HS} (un : UND s B A N1 Q1) (hA : A ≤ 1) (M O F1 E : CS) (z3 : Int32 × CS) (h3 : z3.1 = csum s v 24) : RES s B (oj_L_areIfsSo_196 M O (nI v) (nI u) z3 (nI A) F1 N1 Q1 E 1) (j_L_areIfsSo_196 M O (nI v) (nI u) z3 (nI A) F1 N1 Q1 E 1) := by
  have K := h1.toS
  have W := h1.1
  have v24 := hv.1
  have hv1 := eq.p hv
  have v1 := ver1 K hv1 M
  have n01 : ¬ (0 : Int32) = 1 := by decide
  have n10 : ¬ (1 : Int32) = 0 := by decide
  have w8 : rW s1 v ≤ 8 := uc_le _ _ _
  have two : ∀ x y : Nat, x + (1 + 2 * rW s1 v) = y + 8 → nI x = nI y + (7 - nI (2 * rW s1 v)) := fun x y q => by
    have e1 : (7 : Int32) - nI (2 * rW s1 v) = nI 8 - nI (1 + 2 * rW s1 v) := by
      have : ∀ z : Fin 9, (7 : Int32) - nI (2 * z.1) = nI 8 - nI (1 + 2 * z.1) := by decide +kernel
      exact this ⟨rW s1 v, by omega⟩
    have e2 : nI x + nI (1 + 2 * rW s1 v) = nI y + nI 8 := by rw [nI_add, nI_add, q]
    rw [e1, Int32.sub_eq_add_neg, ← Int32.add_assoc, ← e2, Int32.add_assoc, Int32.add_right_neg, Int32.add_zero]
  have two' : ∀ x y : Nat, x + 8 = y + (1 + 2 * rW s1 v) → nI x = nI y - (7 - nI (2 * rW s1 v)) := fun x y q => by
    rw [two y x q.symm, Int32.add_sub_cancel]
  unfold oj_L_areIfsSo_196 j_L_areIfsSo_196
  by_cases v0 : 0 < v
  · have p0 : (0 : Int32) < nI v := (nI_ltI (a := 0) (by decide) (by omega)).mpr v0
    have ic := ifc_c K hv1 v0 M
    by_cases g : rH s1 v = true
    · rw [if_pos g] at ic
      obtain ⟨y, N2, E2, y1, y2, y3, H, o, e⟩ := (cut_e h1 un.ok hv1 M F1 E).2.2 v0 g
      have e3 := ct_e s1 v y
      have cH : ¬ rH (ct s1 v y) v = true := fun z => by
        have := (rH_pos z).2
        rw [ct_o _ _ _ (by omega), ct0_2] at this
        exact absurd this (by decide)
      have cO : ∀ i, i ≠ v → rH (ct s1 v y) i = rH s1 i := fun i hi => by
        unfold rH
        rw [ct_o _ _ _ (by omega), ct0_o _ _ (by omega)]
      have t := trees_up (s := s1) (s' := ct s1 v y) (fun i hi => e3 _ (by omega) (by omega) (by omega) (by omega)) y3 y2 ((ct_3 s1 v y y).mpr (Or.inl rfl)) (fun i hi hn => by
        unfold ct
        rw [pk_un (by omega), ct0_o _ _ (by omega)])
      have rm := room_ud (y := y) W e3 hv1 v0 g cH cO t
      have fin := ifs244 H hv hu (un.push hA F1 N2) hA M O (f_X5_copyFrom F1 N1) E2 z3 h3 N1 (by rw [ic]; exact two _ _ rm)
      have ev : ∀ E, f_X6_cut M N1 F1 Q1 E (nI v) = f_X6_cut M N1 F1 Q1 E (nI v) := fun _ => rfl
      simp only [p0, v1, g, n10, o, e, bind1, j_L_areIfsSo_224, oj_L_areIfsSo_224, ↓reduceIte, if_true, if_false, true_and, not_true_eq_false, not_false_eq_true, Bool.false_eq_true, true_implies, false_implies, and_true]
      exact fin
    · rw [if_neg g] at ic
      obtain ⟨N2, E2, e0, H⟩ := (t_join h1 hv1 v0 a M E).2 g
      obtain ⟨o, e⟩ := join_e (F := F1) un.ok e0
      have aq : afterQ Q1 F1 N1 (nI (cntB (tB (jn s1 v v)) 24)) = f_X0_record Q1 (f_X5_copyFrom F1 N1) := if_neg (nI_pos (by have := cntB_le (tB (jn s1 v v)) 24; omega))
      rw [aq] at e
      have e3 := jn_e s1 v v
      have W2 := W.s3 e3
      have hv2 : rP (jn s1 v v) v := (rP_3 e3).mpr hv1
      have gH : rH (jn s1 v v) v = true := by
        unfold rH
        rw [jn_2]
        simp [v0]
      have gO : ∀ i, i ≠ v → rH s1 i = rH (jn s1 v v) i := fun i hi => by
        unfold rH
        rw [jn_2n s1 v v hi]
      have j3 := jn_3 s1 v v
      have e3' : same3 (jn s1 v v) s1 := fun j a b c d => (e3 j a b c d).symm
      have t := trees_up (s := jn s1 v v) (s' := s1) (fun i hi => (e3 _ (by omega) (by omega) (by omega) (by omega)).symm) hv2 (fun z => ((j3 v).mp z.2).1 rfl) a.1.2 (fun i hi hn => by
        unfold jn
        rw [pk_un (by omega), pk_un (by omega)])
      have rm := room_ud (y := v) W2 e3' hv2 v0 gH g gO t
      have rw1 : rW (jn s1 v v) v = rW s1 v := rW_3 W e3 hv1 v0
      rw [rw1] at rm
      have fin := ifs244 H hv hu (un.push hA F1 N2) hA M O (f_X5_copyFrom F1 N1) E2 z3 h3 N1 (by rw [ic]; exact two' _ _ rm.symm)
      simp only [p0, v1, g, n01, o, e, bind1, j_L_areIfsSo_224, oj_L_areIfsSo_224, ↓reduceIte, if_true, if_false, true_and, not_true_eq_false, not_false_eq_true, Bool.false_eq_true, true_implies, false_implies, and_true]
      exact fin
  · have p0 : ¬ (0 : Int32) < nI v := fun z => v0 ((nI_ltI (a := 0) (by decide) (by omega)).mp z)
    have fin := ifs281 hv hu M F1 E N1 Q1 z3 h3 (show A ≤ 2 by omega) un
    simp only [p0, if_false, true_and, not_false_eq_true, Bool.false_eq_true, true_implies, false_implies, and_true]
    exact fin
set_option maxHeartbeats 16000000 in
theorem ifs88_a {M O F1 N1 : CS} {Q1 : HS} {a2 a3 y7 y0 : Int32} {z1 z2 z3 : Int32 × CS} {m i : Nat} {x9 x6 x1 cb ci : Int32} (q : i < 24) (v3 : ∀ E, (f_X6_version M N1 E (nI i) 3).1 = a2) (v6 : ∀ E, f_X6_version M N1 E (nI i) 6 = (x6, E)) (v9 : ∀ E, (f_X6_version M N1 E (nI i) 9).1 = x1) (ir : ∀ E, (f_X6_ifRoot M N1 E (nI i)).1 = ci) (hz2 : z2.1 = cb) (l1 : ¬ ci < cb) (l2 : cb < ci) (go : ∀ E, RES s B (ol_L_areIfsSo_88 M O a2 a3 z1 z2 z3 y7 F1 N1 Q1 y0 m E (i + 1) 1 (x9 + x6 * x1)) (l_L_areIfsSo_88 M O a2 a3 z1 z2 z3 y7 F1 N1 Q1 y0 m E (i + 1) 1 (x9 + x6 * x1))) (E : CS) : RES s B (ol_L_areIfsSo_88 M O a2 a3 z1 z2 z3 y7 F1 N1 Q1 y0 (m + 1) E i 1 x9) (l_L_areIfsSo_88 M O a2 a3 z1 z2 z3 y7 F1 N1 Q1 y0 (m + 1) E i 1 x9) := by
  have n10 : ¬ (1 : Int32) = 0 := by decide
  rw [ol_L_areIfsSo_88, l_L_areIfsSo_88]
  generalize f_X6_version M N1 = fV at *
  generalize f_X6_ifRoot M N1 = fI at *
  simp only [q, v3, v6, v9, ir, hz2, l1, l2, n10, b1n, j_L_areIfsSo_166, oj_L_areIfsSo_166, j_L_areIfsSo_168, oj_L_areIfsSo_168, ↓reduceIte, if_true, if_false, true_and, not_true_eq_false, not_false_eq_true, Bool.false_eq_true, true_implies, false_implies, and_true]
  exact go _
set_option maxHeartbeats 16000000 in
theorem ifs88_b {M O F1 N1 : CS} {Q1 : HS} {a2 a3 y7 y0 : Int32} {z1 z2 z3 : Int32 × CS} {m i : Nat} {x9 x6 x1 cb ci : Int32} (q : i < 24) (v3 : ∀ E, (f_X6_version M N1 E (nI i) 3).1 = a2) (v6 : ∀ E, f_X6_version M N1 E (nI i) 6 = (x6, E)) (v9 : ∀ E, (f_X6_version M N1 E (nI i) 9).1 = x1) (ir : ∀ E, (f_X6_ifRoot M N1 E (nI i)).1 = ci) (hz2 : z2.1 = cb) (l1 : ¬ ci < cb) (l3 : ¬ cb < ci) (l4 : ¬ nI i < z1.1) (go : ∀ E, RES s B (ol_L_areIfsSo_88 M O a2 a3 z1 z2 z3 y7 F1 N1 Q1 y0 m E (i + 1) 1 (x9 + x6 * x1)) (l_L_areIfsSo_88 M O a2 a3 z1 z2 z3 y7 F1 N1 Q1 y0 m E (i + 1) 1 (x9 + x6 * x1))) (E : CS) : RES s B (ol_L_areIfsSo_88 M O a2 a3 z1 z2 z3 y7 F1 N1 Q1 y0 (m + 1) E i 1 x9) (l_L_areIfsSo_88 M O a2 a3 z1 z2 z3 y7 F1 N1 Q1 y0 (m + 1) E i 1 x9) := by
  have n10 : ¬ (1 : Int32) = 0 := by decide
  rw [ol_L_areIfsSo_88, l_L_areIfsSo_88]
  generalize f_X6_version M N1 = fV at *
  generalize f_X6_ifRoot M N1 = fI at *
  simp only [q, v3, v6, v9, ir, hz2, l1, l3, l4, n10, b1n, j_L_areIfsSo_166, oj_L_areIfsSo_166, j_L_areIfsSo_168, oj_L_areIfsSo_168, ↓reduceIte, if_true, if_false, true_and, not_true_eq_false, not_false_eq_true, Bool.false_eq_true, true_implies, false_implies, and_true]
  exact go _
set_option maxHeartbeats 16000000 in
theorem ifs88 (h1 : OKB N1 s1 B) (eq : EQR s s1) {v u A : Nat} (hv : rP s v) (hu : rP s u) (a : RO s1 v v) {Q1 : HS} (un : UND s B A N1 Q1) (hA : A ≤ 1) (M O F1 : CS) (z1 z2 z3 : Int32 × CS) {c : Nat → Nat} (hc : ∀ i, rP s i → c i ≤ 226713600 ∧ csum s i 24 = nI (c i)) {b : Nat} (hb : BST (iT s v) c 24 b) (hz1 : z1.1 = nI b) (hz2 : z2.1 = csum s b 24) (h3 : z3.1 = csum s v 24) {y0 : Int32} (hy : ¬ y0 < 0) : ∀ (m i : Nat), i ≤ 24 → i + m = 25 → ∀ (E : CS) (x9 : Int32), x9 = csum s1 v i → RES s B (ol_L_areIfsSo_88 M O (nI v) (nI u) z1 z2 z3 (nI A) F1 N1 Q1 y0 m E i 1 x9) (l_L_areIfsSo_88 M O (nI v) (nI u) z1 z2 z3 (nI A) F1 N1 Q1 y0 m E i 1 x9) := by
  have K := h1.toS
  have v24 := hv.1
  have b24 := hb.2.1
  have pb := (iT_iff.mp hb.1).1
  have cb := hc b pb
  have n10 : ¬ (1 : Int32) = 0 := by decide
  intro m
  induction m with
  | zero => intro i x1 x2; omega
  | succ m ih =>
    intro i x1 x2 E x9 hx
    by_cases q : i < 24
    · have go := ih (i + 1) (by omega) (by omega)
      rw [csum] at go
      by_cases hi : rP s1 i
      · obtain ⟨w, ra⟩ := RO.ex K hi
        have v3 := ver3 K hi ra M
        have w24 := ra.1.1.1
        have wv : nI w = nI v ↔ w = v := nI_eq (by omega) (by omega)
        by_cases d : w = v
        · have wv := wv.mpr d
          have it : iT s1 v i = true := iT_iff.mpr ⟨hi, by rw [← ra.2, d]⟩
          rw [if_pos it] at go
          have v6 := ver6 K hi M
          have v9 := ver9 K hi ra M
          rw [d] at v9 v3
          have ir := ifr_c K hi M
          have ci := hc i (eq.p' hi)
          rw [eq.sum 24, ci.2] at ir
          have be := hb.2.2 i q (by rw [← eq.i]; exact it)
          have l1 : ¬ nI (c i) < nI (c b) := nI_nlt be.1 (by omega)
          have cc : nI (1 + yC s1 v i) = 1 + nI (yC s1 i v) := by
            rw [show yC s1 i v = yC s1 v i from CC_comm _ _ _ _ _]
            exact (nI_add 1 _).symm
          have cb2 := cb.2
          have go : ∀ E, RES s B (ol_L_areIfsSo_88 M O (nI v) (nI u) z1 z2 z3 (nI A) F1 N1 Q1 y0 m E (i + 1) 1 (x9 + s1 (13 * i + 4) * (1 + nI (yC s1 i v)))) (l_L_areIfsSo_88 M O (nI v) (nI u) z1 z2 z3 (nI A) F1 N1 Q1 y0 m E (i + 1) 1 (x9 + s1 (13 * i + 4) * (1 + nI (yC s1 i v)))) := fun E => go E _ (by rw [hx])
          have v9 : ∀ E, (f_X6_version M N1 E (nI i) 9).1 = 1 + nI (yC s1 i v) := fun E => (v9 E).trans cc
          by_cases l2 : c b < c i
          · exact ifs88_a q v3 v6 v9 ir (hz2.trans cb2) l1 (nI_lt l2 (by omega)) go E
          · exact ifs88_b q v3 v6 v9 ir (hz2.trans cb2) l1 (nI_nlt (by omega) (by omega)) (by rw [hz1]; exact nI_nlt (be.2 (by omega)) (by omega)) go E
        · have wv : ¬ nI w = nI v := fun z => d (wv.mp z)
          have it : ¬ iT s1 v i = true := fun z => d (RO.uq K (ra.ot ((iT_iff.mp z).2.symm)) a)
          rw [if_neg it, Int32.add_zero] at go
          rw [ol_L_areIfsSo_88, l_L_areIfsSo_88]
          clear K
          generalize f_X6_version M N1 = fV at *
          generalize f_X6_ifRoot M N1 = fI at *
          simp only [q, v3, wv, bind1, j_L_areIfsSo_168, oj_L_areIfsSo_168, ↓reduceIte, if_true, if_false, true_and, not_true_eq_false, not_false_eq_true, Bool.false_eq_true, true_implies, false_implies, and_true]
          exact go _ _ (by rw [hx])
      · have vn := ver_no K q hi M
        have nv : ¬ (-1 : Int32) = nI v := fun z => nI_pos (show v < 2 ^ 31 by omega) (z ▸ (show (-1 : Int32) < 0 by decide))
        have it : ¬ iT s1 v i = true := fun z => hi (iT_iff.mp z).1
        rw [if_neg it, Int32.add_zero] at go
        rw [ol_L_areIfsSo_88, l_L_areIfsSo_88]
        clear K
        generalize f_X6_version M N1 = fV at *
        generalize f_X6_ifRoot M N1 = fI at *
        simp only [q, vn, nv, bind1, j_L_areIfsSo_168, oj_L_areIfsSo_168, ↓reduceIte, if_true, if_false, true_and, not_true_eq_false, not_false_eq_true, Bool.false_eq_true, true_implies, false_implies, and_true]
        exact go _ _ (by rw [hx])
    · have i24 : i = 24 := by omega
      rw [ol_L_areIfsSo_88, l_L_areIfsSo_88]
      rw [i24] at hx
      have sm : x9 = z3.1 := hx.trans ((eq.sum (v := v) 24).trans h3.symm)
      have fin := ifs196 h1 eq hv hu a un hA M O F1 E z3 h3
      clear hx h3 hz2 hc hb K ih
      generalize f_X6_version M N1 = fV at *
      generalize f_X6_ifRoot M N1 = fI at *
      simp only [q, sm, hy, n10, k_L_areIfsSo_174, ok_L_areIfsSo_174, ↓reduceIte, if_true, if_false, true_and, not_true_eq_false, not_false_eq_true, Bool.false_eq_true, true_implies, false_implies, and_true]
      exact fin
theorem ifs80 (h1 : OKB N1 s1 B) (eq : EQR s s1) {v u A : Nat} (hv : rP s v) (hu : rP s u) (a : RO s1 v v) {Q1 : HS} (un : UND s B A N1 Q1) (hA : A ≤ 1) (M O F1 : CS) (z1 z2 z3 : Int32 × CS) {c : Nat → Nat} (hc : ∀ i, rP s i → c i ≤ 226713600 ∧ csum s i 24 = nI (c i)) {b : Nat} (hb : BST (iT s v) c 24 b) (hz1 : z1.1 = nI b) (hz2 : z2.1 = csum s b 24) (h3 : z3.1 = csum s v 24) {y0 : Int32} (hy : ¬ y0 < 0) (E : CS) {y7 : Int32} (e7 : y7 = nI A) : RES s B (oj_L_areIfsSo_80 M O (nI v) (nI u) z1 z2 z3 1 y7 E F1 N1 Q1 y0) (j_L_areIfsSo_80 M O (nI v) (nI u) z1 z2 z3 1 y7 E F1 N1 Q1 y0) := by
  have k := ifs88 h1 eq hv hu a un hA M O F1 z1 z2 z3 hc hb hz1 hz2 h3 hy 25 0 (by decide) (by decide) E 0 rfl
  rw [e7]
  unfold oj_L_areIfsSo_80 j_L_areIfsSo_80
  exact k
set_option maxHeartbeats 16000000 in
theorem ifs_start1 {M F E O N : CS} {Q : HS} {a2 a3 xb cv cb : Int32} (eb : (f_X6_bestRoot M N E a2).1 = xb) (irb : ∀ E, (f_X6_ifRoot M N E xb).1 = cb) (irv : ∀ E, (f_X6_ifRoot M N E a2).1 = cv) (v3 : ∀ E, (f_X6_version M N E a2 3).1 = a2) (v3b : ∀ E, (f_X6_version M N E xb 3).1 = a2) (le : ¬ cv < cb) (f80 : ∀ z1 z2 z3 E', z1.1 = xb → z2.1 = cb → z3.1 = cv → RES s B (oj_L_areIfsSo_80 M O a2 a3 z1 z2 z3 1 0 E' F N Q 0) (j_L_areIfsSo_80 M O a2 a3 z1 z2 z3 1 0 E' F N Q 0)) : RES s B (o_L_areIfsSo M N F Q E O a2 a3) (f_L_areIfsSo M N F Q E O a2 a3) := by
  have n10 : ¬ (1 : Int32) = 0 := by decide
  unfold o_L_areIfsSo f_L_areIfsSo oj_L_areIfsSo_47 j_L_areIfsSo_47 oj_L_areIfsSo_64 j_L_areIfsSo_64
  generalize f_X6_version M N = fV at *
  generalize f_X6_ifRoot M N = fI at *
  generalize f_X6_bestRoot M N E a2 = zb at *
  generalize f_X6_root M N F Q = fR at *
  generalize o_X6_root M N F Q = oR at *
  simp only [b1n, eb, irb, irv, v3, v3b, le, n10, ↓reduceIte, if_true, if_false, true_and, not_true_eq_false, not_false_eq_true, Bool.false_eq_true, true_implies, false_implies, and_true]
  exact f80 _ _ _ _ eb (irb _) (irv _)
set_option maxHeartbeats 16000000 in
theorem ifs_start2 {M F E O N : CS} {Q : HS} {a2 a3 xb cv cb xw : Int32} (eb : (f_X6_bestRoot M N E a2).1 = xb) (irb : ∀ E, (f_X6_ifRoot M N E xb).1 = cb) (irv : ∀ E, (f_X6_ifRoot M N E a2).1 = cv) (v3 : ∀ E, (f_X6_version M N E a2 3).1 = xw) (v3b : ∀ E, (f_X6_version M N E xb 3).1 = xw) (nw : ¬ xw = a2) (le : ¬ cv < cb) (f80 : ∀ z1 z2 z3 E', z1.1 = xb → z2.1 = cb → z3.1 = cv → RES s B (o_X6_root M N F Q E' a2 ∧ oj_L_areIfsSo_80 M O a2 a3 z1 z2 z3 1 1 (f_X6_root M N F Q E' a2).2.2.2.2 (f_X6_root M N F Q E' a2).2.2.1 (f_X6_root M N F Q E' a2).2.1 (f_X6_root M N F Q E' a2).2.2.2.1 (f_X6_root M N F Q E' a2).1) (j_L_areIfsSo_80 M O a2 a3 z1 z2 z3 1 1 (f_X6_root M N F Q E' a2).2.2.2.2 (f_X6_root M N F Q E' a2).2.2.1 (f_X6_root M N F Q E' a2).2.1 (f_X6_root M N F Q E' a2).2.2.2.1 (f_X6_root M N F Q E' a2).1)) : RES s B (o_L_areIfsSo M N F Q E O a2 a3) (f_L_areIfsSo M N F Q E O a2 a3) := by
  have n10 : ¬ (1 : Int32) = 0 := by decide
  unfold o_L_areIfsSo f_L_areIfsSo oj_L_areIfsSo_47 j_L_areIfsSo_47 oj_L_areIfsSo_64 j_L_areIfsSo_64
  generalize f_X6_version M N = fV at *
  generalize f_X6_ifRoot M N = fI at *
  generalize f_X6_bestRoot M N E a2 = zb at *
  generalize f_X6_root M N F Q = fR at *
  generalize o_X6_root M N F Q = oR at *
  simp only [b1n, eb, irb, irv, v3, v3b, le, nw, n10, ↓reduceIte, if_true, if_false, true_and, not_true_eq_false, not_false_eq_true, Bool.false_eq_true, true_implies, false_implies, and_true]
  exact f80 _ _ _ _ eb (irb _) (irv _)
theorem areIfsSo_n {N : CS} (h : OKB N s B) (hB : B ≤ 512) {v u : Nat} (hv : rP s v) (hu : rP s u) {Q : HS} {k : Nat} (hq : HQ Q k) (M F E O : CS) : RES s B (o_L_areIfsSo M N F Q E O (nI v) (nI u)) (f_L_areIfsSo M N F Q E O (nI v) (nI u)) := by
  have K := h.toS
  obtain ⟨w, a⟩ := RO.ex K hv
  obtain ⟨c, hc⟩ := cost_fn K (show B ≤ 512 from hB)
  obtain ⟨b, hb, eb⟩ := best_c K hv hc M E
  have ib := iT_iff.mp hb.1
  have v24 := hv.1
  have w24 := a.1.1.1
  have cb := hc b ib.1
  have cv := hc v hv
  have le : ¬ nI (c v) < nI (c b) := nI_nlt (hb.2.2 v v24 (iT_iff.mpr ⟨hv, rfl⟩)).1 (by omega)
  have v3 := ver3 K hv a M
  have v3b := ver3 K ib.1 (a.ot ib.2) M
  have irb := ifr_c K ib.1 M
  have irv := ifr_c K hv M
  have wv : nI w = nI v ↔ w = v := nI_eq (by omega) (by omega)
  have le' : ¬ csum s v 24 < csum s b 24 := by rw [cv.2, cb.2]; exact le
  by_cases d : w = v
  · subst d
    exact ifs_start1 eb irb irv v3 v3b le' (fun z1 z2 z3 E' x1 x2 x3 => ifs80 h (EQR.rf s) hv hu a (UND.none h hq) (by decide) M O F z1 z2 z3 hc hb x1 x2 x3 (by decide) E' rfl)
  · refine ifs_start2 eb irb irv v3 v3b (fun z => d (wv.mp z)) le' (fun z1 z2 z3 E' x1 x2 x3 => ?_)
    obtain ⟨N1, E1, e, H⟩ := (t_root h hv a M E').2 d
    obtain ⟨o, f⟩ := root_e (F := F) hq.2.2.1 e
    have dl : yD s w v ≤ 23 := DD_le h.1.tr a.1.1 hv a.2
    have aq : afterQ Q F N (nI (yD s w v)) = f_X0_record Q (f_X5_copyFrom F N) := if_neg (nI_pos (by omega))
    rw [aq] at f
    have rv : RO (mv s w v) v v := ⟨⟨(EQR.moved s w v).p hv, (mv_3 s w v v).mpr (Or.inl rfl)⟩, rfl⟩
    rw [f]
    exact RES.of (ifs80 H (EQR.moved s w v) hv hu rv ((UND.none h hq).push (by decide) F N1) (by decide) M O (f_X5_copyFrom F N) z1 z2 z3 hc hb x1 x2 x3 (nI_pos (by omega)) E1 rfl) (fun x => ⟨o, x⟩)
end IFS2
