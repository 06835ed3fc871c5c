/-! PURE PART. a version is born -/
section BORN
variable {N : CS} {s : Nat → Int32} {B : Nat}
theorem nume (N : CS) {v c : Nat} (hv : v < 24) (hc : c < 8) : f_X5_numberIn N (nI v) (nI c) = N.2 6 (8 * v + c) := by
  unfold f_X5_numberIn
  rw [show (8 : Int32) = nI 8 from rfl, pk_mul, nI_add, at_n _ (by omega) (by decide), show v * 8 + c = 8 * v + c by omega]
theorem pute (N : CS) {v c : Nat} (hv : v < 24) (hc : c < 8) (x : Int32) : f_X5_putNumber N (nI v) (nI c) x = setF N 6 (upd (N.2 6) (8 * v + c) x) := by
  unfold f_X5_putNumber
  simp only [bind1]
  rw [show (8 : Int32) = nI 8 from rfl, pk_mul, nI_add, put_n _ _ (by omega) (by decide), show v * 8 + c = 8 * v + c by omega]
theorem unl_g {v u : Nat} (hv : v < 24) (hu : u < 24) (ev : ∀ c, c < 8 → N.2 6 (8 * v + c) = s (13 * v + (5 + c))) (eu : ∀ c, c < 8 → N.2 6 (8 * u + c) = s (13 * u + (5 + c))) : ∀ j, j < 32 → bt (f_X5_unlikeCells N (nI v) (nI u)) j = (decide (j < 8) && un s v u j) := by
  have key : ∀ (n i : Nat) (x : Int32), i ≤ 8 → i + n = 9 → (∀ j, j < 32 → bt x j = (decide (j < i) && un s v u j)) → ∀ j, j < 32 → bt (l_X5_unlikeCells_5 N (nI v) (nI u) n x i) j = (decide (j < 8) && un s v u j) := by
    intro n
    induction n with
    | zero => intro i x h1 h2; omega
    | succ n ih =>
      intro i x h1 h2 hx
      rw [l_X5_unlikeCells_5]
      by_cases c : i < 8
      · rw [if_pos c, nume N hv c, nume N hu c, ev i c, eu i c]
        by_cases d : s (13 * v + (5 + i)) = s (13 * u + (5 + i))
        · have e : un s v u i = false := by unfold un; simp [d]
          rw [if_pos d]
          refine ih (i + 1) x (by omega) (by omega) (fun j hj => ?_)
          rw [hx j hj]
          by_cases q : j = i
          · subst q; simp [e]
          · have : (decide (j < i + 1)) = decide (j < i) := decide_eq_decide.mpr (by omega)
            rw [this]
        · have e : un s v u i = true := by unfold un; simp [d]
          rw [if_neg d]
          refine ih (i + 1) _ (by omega) (by omega) (fun j hj => ?_)
          rw [bt_or, bt_of (by omega) hj, hx j hj]
          by_cases q : j = i
          · subst q; simp [e]
          · have : (decide (j < i + 1)) = decide (j < i) := decide_eq_decide.mpr (by omega)
            rw [this]; simp [q]
      · have : i = 8 := by omega
        subst this
        rw [if_neg c]
        exact hx
  exact key 9 0 0 (by decide) (by decide) (fun j _ => by rw [bt_0]; simp)
theorem OKB.born (h : OKB N s B) {v u : Nat} (v24 : v < 24) (nv : ¬ rP s v) (hu : rP s u) {N2 : CS} {s' : Nat → Int32} (e : ∀ j, j < 318 → (j < 13 * v ∨ 13 * v + 13 ≤ j) → s' j = s j) (e0 : s' (13 * v) = 1) (e1 : s' (13 * v + 1) = nI u) (e2 : s' (13 * v + 2) = 1) (e3 : s' (13 * v + 3) = 0) (e4 : s' (13 * v + 4) = 0) (i2 : N2.1 = N.1) (a2 : ∀ j, j ≠ 6 → N2.2 j = N.2 j) (c1 : ∀ w c, w < 24 → w ≠ v → c < 8 → N2.2 6 (8 * w + c) = N.2 6 (8 * w + c)) (c2 : ∀ c, c < 8 → N2.2 6 (8 * v + c) = s' (13 * v + (5 + c))) : OKB (f_X5_hang N2 (nI v) (nI u)) s' B := by
  obtain ⟨W, L, R, b⟩ := h
  have u24 := hu.1
  have uv : u ≠ v := fun z => nv (z ▸ hu)
  have v0 : 0 < v := by
    rcases Nat.eq_zero_or_pos v with z | z
    · exact absurd W.p0 (z ▸ nv)
    · exact z
  have pw : ∀ w, rP s' w ↔ (rP s w ∨ w = v) := by
    intro w
    by_cases c : w = v
    · subst c
      exact ⟨fun _ => Or.inr rfl, fun _ => ⟨v24, e0⟩⟩
    · constructor
      · rintro ⟨p, q⟩
        exact Or.inl ⟨p, by rw [← e _ (by omega) (by omega)]; exact q⟩
      · rintro (⟨p, q⟩ | q)
        · exact ⟨p, by rw [e _ (by omega) (by omega)]; exact q⟩
        · exact absurd q c
  have ne : ∀ w, rP s w → w ≠ v := fun w hw z => nv (z ▸ hw)
  have eo : ∀ w k, rP s w → k < 13 → s' (13 * w + k) = s (13 * w + k) := fun w k hw hk => by
    have := hw.1
    have := ne w hw
    exact e _ (by omega) (by omega)
  have hU : ∀ w, rP s w → rU s' w = rU s w := fun w hw => by unfold rU; rw [eo w 1 hw (by decide)]
  have hUv : rU s' v = u := by unfold rU; rw [e1, nI_clamp (by omega)]
  have hH : ∀ w, rP s w → rH s' w = rH s w := fun w hw => by unfold rH; rw [eo w 2 hw (by decide)]
  have hHv : rH s' v = true := by unfold rH; rw [e2]; simp [v0]
  have W' : SH s' := by
    refine ⟨by rw [e 0 (by decide) (by omega)]; exact W.1, fun w hw => ?_, fun w p hw => ?_, ?_⟩
    · by_cases c : w = v
      · subst c; exact Or.inr e0
      · rw [e _ (by omega) (by omega)]; exact W.2.1 w hw
    · rcases (pw w).mp hw with q | q
      · rw [hU w q, eo w 1 q (by decide)]
        exact ⟨(W.2.2.1 w p q).1, (pw _).mpr (Or.inl (W.2.2.1 w p q).2)⟩
      · subst q
        rw [hUv]
        exact ⟨e1, (pw u).mpr (Or.inl hu)⟩
    · obtain ⟨r, hr⟩ := W.2.2.2
      refine ⟨fun w => if w = v then r u + 1 else r w, fun w p hw => ?_⟩
      rcases (pw w).mp hw with q | q
      · have h1 := hr w p q
        have h2 := (W.2.2.1 w p q).2
        rw [hU w q]
        show (if rU s w = v then r u + 1 else r (rU s w)) < (if w = v then r u + 1 else r w)
        rw [if_neg (ne _ h2), if_neg (ne w q)]
        exact h1
      · subst q
        rw [hUv]
        show (if u = w then r u + 1 else r u) < (if w = w then r u + 1 else r w)
        rw [if_neg uv, if_pos rfl]
        omega
  have hT : ∀ w, rP s w → rT s' w = rT s w := fun w hw => (tree_congr W.tr hH (fun w hw _ => hU w hw) _ w hw (Nat.le_refl _)).2.1
  have pv : rP s' v := (pw v).mpr (Or.inr rfl)
  have hTv : rT s' v = rT s u := by
    have := tp_up W'.tr pv hHv
    rw [hUv] at this
    exact this.symm.trans (hT u hu)
  have rw' : ∀ w, rR s' w ↔ rR s w := by
    intro w
    unfold rR
    constructor
    · rintro ⟨p, q⟩
      rcases (pw w).mp p with z | z
      · exact ⟨z, by rw [← eo w 3 z (by decide)]; exact q⟩
      · subst z
        rw [e3] at q
        exact absurd q (by decide)
    · rintro ⟨p, q⟩
      exact ⟨(pw w).mpr (Or.inl p), by rw [eo w 3 p (by decide)]; exact q⟩
  have pe : ∀ i, pB s' i = true ↔ (pB s i = true ∨ i = v) := fun i => by rw [pB_iff, pB_iff]; exact pw i
  have un0 : ∀ w x j, rP s w → rP s x → j < 8 → un s' w x j = un s w x j := fun w x j hw hx hj => by
    unfold un
    rw [eo w _ hw (by omega), eo x _ hx (by omega)]
  refine ⟨W', ⟨fun w p hw => ?_, fun w hw => ?_, fun y1 y2 h1 h2 t => ?_, L.2.2.2.1.mod (e 312 (by decide) (by omega)) (e 313 (by decide) (by omega)), by rw [e 1 (by decide) (by omega)]; exact L.2.2.2.2⟩, ⟨fun i hi => ?_, fun i hi => ?_, fun i hi => ?_, ?_, fun w p hw => ?_, fun w hw => ?_, fun j a c => ?_⟩, fun w hw => ?_⟩
  · rcases (pw w).mp hw with q | q
    · rw [eo w 2 q (by decide)]; exact L.1 w p q
    · subst q; exact Or.inr e2
  · rcases (pw w).mp hw with q | q
    · obtain ⟨x, x1, x2⟩ := L.2.1 w q
      exact ⟨x, (rw' x).mpr x1, by rw [hT x x1.1, hT w q]; exact x2⟩
    · subst q
      obtain ⟨x, x1, x2⟩ := L.2.1 u hu
      exact ⟨x, (rw' x).mpr x1, by rw [hT x x1.1, hTv]; exact x2⟩
  · have r1 := (rw' y1).mp h1
    have r2 := (rw' y2).mp h2
    rw [hT y1 r1.1, hT y2 r2.1] at t
    exact L.2.2.1 y1 y2 r1 r2 t
  · show bt (N2.1 0 ||| f_X4_of (nI v)) i = _
    rw [Bool.eq_iff_iff, bor_i v24 hi, i2, R.1 i hi, pe]
  · show bt (N2.1 1 ||| f_X4_of (nI v)) i = _
    rw [Bool.eq_iff_iff, bor_i v24 hi, i2, k_i R hi, Bool.and_eq_true, pe, pB_iff]
    constructor
    · rintro (⟨p, q⟩ | q)
      · exact ⟨Or.inl p, by rw [hH i p]; exact q⟩
      · exact ⟨Or.inr q, by rw [q]; exact hHv⟩
    · rintro ⟨p | p, q⟩
      · exact Or.inl ⟨p, by rw [← hH i p]; exact q⟩
      · exact Or.inr p
  · show bt (N2.1 2) i = _
    rw [Bool.eq_iff_iff, i2, t_i R hi, tB_iff]
    exact (rw' i).symm
  · show f_X3_put 24 (N2.2 3) (nI v) (nI u) 0 = 0 ∧ f_X3_put 24 (N2.2 4) (nI v) _ 0 = 0
    rw [put_n _ _ v24 (by decide), put_n _ _ v24 (by decide), pk_un (by omega), pk_un (by omega), a2 3 (by decide), a2 4 (by decide)]
    exact R.2.2.2.1
  · show f_X3_put 24 (N2.2 3) (nI v) (nI u) w = _ ∧ ∀ j, j < 32 → bt (f_X3_put 24 (N2.2 4) (nI v) (f_X5_unlikeCells (setF (setI N2 0 (N2.1 0 ||| f_X4_of (nI v))) 3 (f_X3_put 24 (N2.2 3) (nI v) (nI u))) (nI v) (nI u)) w) j = _
    rw [put_n _ _ v24 (by decide), put_n _ _ v24 (by decide), a2 3 (by decide), a2 4 (by decide)]
    rcases (pw w).mp hw with q | q
    · rw [pk_un (ne w q), pk_un (ne w q), hU w q]
      obtain ⟨d1, d2⟩ := R.2.2.2.2.1 w p q
      refine ⟨d1, fun j hj => ?_⟩
      rw [d2 j hj]
      by_cases c : j < 8
      · rw [un0 w _ j q (W.2.2.1 w p q).2 c]
      · simp [c]
    · subst q
      rw [pk_us, pk_us, hUv]
      exact ⟨rfl, unl_g v24 u24 c2 (fun c hc => by
        show N2.2 6 (8 * u + c) = _
        rw [c1 u c u24 uv hc, eo u _ hu (by omega)]
        exact (R.2.2.2.2.2.1 u hu).2 c hc)⟩
  · show f_X3_put 24 (N2.2 5) (nI v) 0 w = _ ∧ ∀ c, c < 8 → N2.2 6 (8 * w + c) = _
    rw [put_n _ _ v24 (by decide), a2 5 (by decide)]
    rcases (pw w).mp hw with q | q
    · rw [pk_un (ne w q)]
      obtain ⟨d1, d2⟩ := R.2.2.2.2.2.1 w q
      exact ⟨by rw [eo w 4 q (by decide)]; exact d1, fun c hc => by rw [c1 w c q.1 (ne w q) hc, eo w _ q (by omega)]; exact d2 c hc⟩
    · subst q
      rw [pk_us]
      exact ⟨e4.symm, c2⟩
  · rw [e _ (by omega) (by omega), ← R.2.2.2.2.2.2 j a c, ← i2]
    show upd (upd N2.1 0 _) 1 _ j = _
    rw [pk_un (by omega), pk_un (by omega)]
  · rcases (pw w).mp hw with q | q
    · rw [eo w 4 q (by decide)]; exact b w q
    · subst q
      exact ⟨0, Nat.zero_le _, e4⟩
end BORN
