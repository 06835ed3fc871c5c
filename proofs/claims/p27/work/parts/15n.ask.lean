/-! PURE PART. asking, in the row's words -/
/-- nothing of roots is changed -/
def R3 (s s' : Nat → Int32) : Prop := ∀ u, u < 24 → s' (13 * u + 3) = s (13 * u + 3)
/-- by the rule v becomes the root in w's place -/
def PRE (s : Nat → Int32) (v w : Nat) : Prop := s 312 = 1 ∨ (s 312 = 2 ∧ s (13 * w + 4) < s (13 * v + 4) + 1)
def ASC (s s' : Nat → Int32) (v w : Nat) : Prop := s 313 < nI (yD s w v) ∧ ¬ rR s v ∧ s' (13 * v + 3) = 1 ∧ (∀ u, u < 24 → u ≠ v → s' (13 * u + 3) = s (13 * u + 3)) ∧ s' 317 = s 317 + 1 ∧ s' 316 = s 316
def ASN (s s' : Nat → Int32) (v w : Nat) : Prop := ¬ s 313 < nI (yD s w v) ∧ s' 317 = s 317 ∧ ((w = v ∧ s' 316 = s 316 ∧ R3 s s') ∨ (w ≠ v ∧ PRE s v w ∧ s' 316 = s 316 + 1 ∧ ∀ u, u < 24 → (s' (13 * u + 3) = 1 ↔ (u = v ∨ (u ≠ w ∧ s (13 * u + 3) = 1)))) ∨ (w ≠ v ∧ ¬ PRE s v w ∧ s' 316 = s 316 ∧ R3 s s' ∧ RO s' v w))
def ASK (s s' : Nat → Int32) (v w : Nat) : Prop := (∀ u, u < 24 → s' (13 * u) = s (13 * u)) ∧ (∀ u, u < 24 → u ≠ v → s' (13 * u + 4) = s (13 * u + 4)) ∧ s' (13 * v + 4) = s (13 * v + 4) + 1 ∧ s' 314 = s 314 + 1 ∧ s' 315 = s 315 + nI (1 + yC s w v) ∧ (ASC s s' v w ∨ ASN s s' v w)
section TAS
variable {N : CS} {s : Nat → Int32} {B : Nat}
theorem t_ask (h : OKB N s B) {v w : Nat} (hv : rP s v) (a : RO s v w) (M E : CS) : ∃ N' E' s', f_X6_tryAsk M N E (nI v) = (nI (1 + yC s w v), N', E') ∧ OKB N' s' (B + 1) ∧ ASK s s' v w := by
  have K := h.toS
  have W := h.1
  have L := h.2.1
  have R := h.2.2.1
  obtain ⟨w1, w2⟩ := a
  have w24 := w1.1.1
  have v24 := hv.1
  have hE := spread_n W R hv E
  have dl : yD s w v ≤ 23 := DD_le W.tr w1.1 hv w2
  obtain ⟨m, m1, m2, m3⟩ := L.2.2.2.1.2
  unfold f_X6_tryAsk
  rw [has_P R hv, if_pos rfl]
  simp only [bind1]
  generalize f_X2_spread E N (nI v) = E' at *
  rw [root_c K ⟨w1, w2⟩ hE, (steps_n hE ⟨w1.1, w2⟩).1, (steps_n hE ⟨w1.1, w2⟩).2, show (1 : Int32) + nI (yC s w v) = nI (1 + yC s w v) from nI_add 1 _]
  obtain ⟨c0, hc0⟩ : ∃ c0, c0 = nI (1 + yC s w v) := ⟨_, rfl⟩
  rw [← hc0]
  obtain ⟨t, ht⟩ : ∃ t, t = nt s v c0 := ⟨_, rfl⟩
  have H1 : OKB (f_X5_noteAsking N (nI v) c0) t (B + 1) := by rw [ht]; exact h.noted hv _
  have t0 : ∀ u, u < 24 → t (13 * u) = s (13 * u) := fun u hu => by rw [ht, nt_o _ _ _ (by omega) (by omega) (by omega)]
  have t3 : ∀ u, u < 24 → t (13 * u + 3) = s (13 * u + 3) := fun u hu => by rw [ht, nt_o _ _ _ (by omega) (by omega) (by omega)]
  have t4 : ∀ u, u < 24 → u ≠ v → t (13 * u + 4) = s (13 * u + 4) := fun u hu hn => by rw [ht, nt_o _ _ _ (by omega) (by omega) (by omega)]
  have t4v : t (13 * v + 4) = s (13 * v + 4) + 1 := by rw [ht, nt_4 _ v24]
  have t312 : t 312 = s 312 := by rw [ht, nt_o _ _ _ (by omega) (by omega) (by omega)]
  have t314 : t 314 = s 314 + 1 := by rw [ht, nt_314 _ v24]
  have t315 : t 315 = s 315 + c0 := by rw [ht, nt_315 _ v24]
  have t316 : t 316 = s 316 := by rw [ht, nt_o _ _ _ (by omega) (by omega) (by omega)]
  have t317 : t 317 = s 317 := by rw [ht, nt_o _ _ _ (by omega) (by omega) (by omega)]
  have n8 : (f_X5_noteAsking N (nI v) c0).1 8 = nI m := by
    rw [← m3]
    exact R.2.2.2.2.2.2 8 (by decide) (by decide)
  have q : nI m < nI (yD s w v) ↔ m < yD s w v := nI_ltI (by omega) (by omega)
  rw [n8]
  by_cases c : m < yD s w v
  · have nrv : ¬ rR s v := fun z => by
      have e := L.2.2.1 w v w1 z w2
      rw [e, show yD s v v = 0 from (way_self (wt := rW s) W.tr hv).1] at c
      omega
    have hD : yD s w v = yD s w v - 1 + 1 := by omega
    have eD : nI (yD s w v) - 1 = nI (yD s w v - 1) := by
      rw [hD, nI_pred]
      rfl
    have tw := toward_n W w1.1 hv w2 (show yD s w v - 1 ≤ yD s w v by omega) hE
    obtain ⟨pl, hl⟩ := way_last W w1.1 hv w2 (show 0 < yD s w v by omega)
    have tl := (PP_P W.tr w1.1 hv w2 (k := yD s w v - 1) (show yD s w v - 1 ≤ yD s w v by omega)).2
    have tl : rT s (yP s w v (yD s w v - 1)) = rT s v := tl
    rw [if_pos (q.mpr c), eD, tw]
    have vz : nI v = 0 ↔ v = 0 := nI_eq (b := 0) (by omega) (by decide)
    have cc : s 313 < nI (yD s w v) := by rw [m3]; exact q.mpr c
    generalize yP s w v (yD s w v - 1) = l at *
    have l24 := pl.1
    have so : 0 < v → f_X5_sourceOf (f_X5_noteAsking N (nI v) c0) (nI v) = nI (rU s v) := fun v0 => src_s R hv v0
    have fin : ∀ x, rP s x → OKB (setI (f_X5_addRoot (f_X5_cutDifference (f_X5_noteAsking N (nI v) c0) (nI x)) (nI v)) 12 ((f_X5_addRoot (f_X5_cutDifference (f_X5_noteAsking N (nI v) c0) (nI x)) (nI v)).1 12 + 1)) (qc (nt s v c0) x v) (B + 1) → f_X5_cutBetween (f_X5_noteAsking N (nI v) c0) (nI v) (nI l) = f_X5_cutDifference (f_X5_noteAsking N (nI v) c0) (nI x) → ∃ N' E'' s', (c0, setI (f_X5_addRoot (f_X5_cutBetween (f_X5_noteAsking N (nI v) c0) (nI v) (nI l)) (nI v)) 12 ((f_X5_addRoot (f_X5_cutBetween (f_X5_noteAsking N (nI v) c0) (nI v) (nI l)) (nI v)).1 12 + 1), E') = (c0, N', E'') ∧ OKB N' s' (B + 1) ∧ ASK s s' v w := by
      intro x hx H e
      have x24 := hx.1
      rw [← ht] at H
      refine ⟨_, _, qc t x v, by rw [e], H, fun u hu => ?_, fun u hu hn => ?_, ?_, ?_, ?_, Or.inl ⟨cc, nrv, qc_3 t x v24, fun u hu hn => ?_, ?_, ?_⟩⟩
      · rw [qc_o _ _ _ (by omega) (by omega) (by omega)]; exact t0 u hu
      · rw [qc_o _ _ _ (by omega) (by omega) (by omega)]; exact t4 u hu hn
      · rw [qc_o _ _ _ (by omega) (by omega) (by omega)]; exact t4v
      · rw [qc_o _ _ _ (by omega) (by omega) (by omega)]; exact t314
      · rw [qc_o _ _ _ (by omega) (by omega) (by omega), t315, hc0]
      · rw [qc_o _ _ _ (by omega) (by omega) (by omega)]; exact t3 u hu
      · rw [qc_317 t x24 v24, t317]
      · rw [qc_o _ _ _ (by omega) (by omega) (by omega)]; exact t316
    rcases hl with ⟨g, b, nc⟩ | ⟨g, b, cw, nv, ne⟩
    · have v0 := (rH_pos g).1
      refine fin v hv (h.askcut hv c0 hv g w1 w2 rfl ⟨fun _ => nc, fun _ => cm_refl v⟩) ?_
      unfold f_X5_cutBetween
      rw [if_neg (fun z => absurd (vz.mp z) (by omega)), if_pos ((so v0).trans (congrArg nI b))]
      rfl
    · refine fin l pl (h.askcut hv c0 pl g w1 (w2.trans tl.symm) tl.symm ⟨fun z => absurd z nv, fun z => absurd cw z⟩) ?_
      unfold f_X5_cutBetween
      by_cases v0 : v = 0
      · rw [if_pos (vz.mpr v0)]
        rfl
      · rw [if_neg (fun z => v0 (vz.mp z)), if_neg]
        · rfl
        · rw [so (by omega), nI_eq (by have := (W.2.2.1 v (by omega) hv).2.1; omega) (by omega)]
          exact ne (by omega)
  · have cc : ¬ s 313 < nI (yD s w v) := by rw [m3]; exact fun z => c (q.mp z)
    rw [if_neg (fun z => c (q.mp z))]
    have hvX : rP t v := ⟨v24, by rw [t0 v v24]; exact hv.2⟩
    have hwX : rP t w := ⟨w24, by rw [t0 w w24]; exact w1.1.2⟩
    have fT : ∀ u, rP s u → rT t u = rT s u := fun u hu => (tree_congr W.tr (fun u hu => by
      have := hu.1
      unfold rH
      rw [ht, nt_o _ _ _ (by omega) (by omega) (by omega)]) (fun u hu _ => by rw [ht]; exact rU_3 (nt_e _ _ _) hu.1) _ u hu (Nat.le_refl _)).2.1
    have H2 := H1.moved (w := w) (x := v) ⟨hwX, by rw [t3 w w24]; exact w1.2⟩ hvX (by rw [fT w w1.1, fT v hv]; exact w2)
    have H3 := H2.up316
    have n7 : (f_X5_noteAsking N (nI v) c0).1 7 = s 312 := (H1.2.2.1.2.2.2.2.2.2 7 (by decide) (by decide)).trans t312
    have g3 := L.2.2.2.1.1
    have wv : nI w = nI v ↔ w = v := nI_eq (by omega) (by omega)
    have asN : ((w = v ∧ t 316 = s 316 ∧ R3 s t) ∨ (w ≠ v ∧ PRE s v w ∧ t 316 = s 316 + 1 ∧ ∀ u, u < 24 → (t (13 * u + 3) = 1 ↔ (u = v ∨ (u ≠ w ∧ s (13 * u + 3) = 1)))) ∨ (w ≠ v ∧ ¬ PRE s v w ∧ t 316 = s 316 ∧ R3 s t ∧ RO t v w)) → ASK s t v w := fun z => ⟨t0, t4, t4v, t314, by rw [t315, hc0], Or.inr ⟨cc, t317, z⟩⟩
    by_cases d : w = v
    · rw [if_pos (wv.mpr d)]
      exact ⟨_, _, t, rfl, H1, asN (Or.inl ⟨d, t316, t3⟩)⟩
    · rw [if_neg (fun z => d (wv.mp z))]
      have pf : f_X6_rulePrefers M (f_X5_noteAsking N (nI v) c0) (nI v) (nI w) = true ↔ PRE s v w := by
        unfold f_X6_rulePrefers PRE
        rw [n7, asked_n H1.2.2.1 hvX, asked_n H1.2.2.1 hwX, t4 w w24 d, t4v]
        rcases g3 with g | g | g
        · rw [g, if_pos rfl]
          constructor
          · intro z
            cases z
          · rintro (z | ⟨z, -⟩)
            · exact absurd z (by decide)
            · exact absurd z (by decide)
        · rw [g, if_neg (by decide), if_pos rfl]
          exact ⟨fun _ => Or.inl rfl, fun _ => rfl⟩
        · rw [g, if_neg (by decide), if_neg (by decide)]
          by_cases y : s (13 * w + 4) < s (13 * v + 4) + 1
          · rw [if_pos y]
            exact ⟨fun _ => Or.inr ⟨rfl, y⟩, fun _ => rfl⟩
          · rw [if_neg y]
            constructor
            · intro z
              cases z
            · rintro (z | ⟨-, z⟩)
              · exact absurd z (by decide)
              · exact absurd z y
      by_cases p : PRE s v w
      · rw [if_pos (pf.mpr p)]
        refine ⟨_, _, upd (mv t w v) 316 (mv t w v 316 + 1), rfl, H3, fun u hu => ?_, fun u hu hn => ?_, ?_, ?_, ?_, Or.inr ⟨cc, ?_, Or.inr (Or.inl ⟨d, p, ?_, fun u hu => ?_⟩)⟩⟩
        · rw [pk_un (by omega), mv_o _ _ _ (by omega)]; exact t0 u hu
        · rw [pk_un (by omega), mv_o _ _ _ (by omega)]; exact t4 u hu hn
        · rw [pk_un (by omega), mv_o _ _ _ (by omega)]; exact t4v
        · rw [pk_un (by omega), mv_g _ w24 v24 (by omega)]; exact t314
        · rw [pk_un (by omega), mv_g _ w24 v24 (by omega), t315, hc0]
        · rw [pk_un (by omega), mv_g _ w24 v24 (by omega)]; exact t317
        · rw [pk_us, mv_g _ w24 v24 (by omega), t316]
        · rw [pk_un (by omega), mv_3, t3 u hu]
      · rw [if_neg (fun z => p (pf.mp z))]
        exact ⟨_, _, t, rfl, H1, asN (Or.inr (Or.inr ⟨d, p, t316, t3, ⟨⟨hwX, by rw [t3 w w24]; exact w1.2⟩, by rw [fT w w1.1, fT v hv]; exact w2⟩⟩))⟩
end TAS
