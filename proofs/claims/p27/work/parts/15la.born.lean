/-! PURE PART. ask -/
section ASKS
variable {N : CS} {s : Nat → Int32} {B : Nat}
def nt1 (s : Nat → Int32) (v : Nat) : Nat → Int32 := upd s (13 * v + 4) (s (13 * v + 4) + 1)
def nt2 (s : Nat → Int32) (v : Nat) : Nat → Int32 := upd (nt1 s v) 314 (nt1 s v 314 + 1)
def nt (s : Nat → Int32) (v : Nat) (c : Int32) : Nat → Int32 := upd (nt2 s v) 315 (nt2 s v 315 + c)
theorem nt_o (s : Nat → Int32) (v : Nat) (c : Int32) {j : Nat} (h1 : j ≠ 13 * v + 4) (h2 : j ≠ 314) (h3 : j ≠ 315) : nt s v c j = s j := by
  unfold nt nt2 nt1
  rw [pk_un h3, pk_un h2, pk_un h1]
theorem nt_4 (s : Nat → Int32) {v : Nat} (hv : v < 24) (c : Int32) : nt s v c (13 * v + 4) = s (13 * v + 4) + 1 := by
  unfold nt nt2 nt1
  rw [pk_un (by omega), pk_un (by omega), pk_us]
theorem nt_314 (s : Nat → Int32) {v : Nat} (hv : v < 24) (c : Int32) : nt s v c 314 = s 314 + 1 := by
  unfold nt nt2 nt1
  rw [pk_un (by omega), pk_us, pk_un (by omega)]
theorem nt_315 (s : Nat → Int32) {v : Nat} (hv : v < 24) (c : Int32) : nt s v c 315 = s 315 + c := by
  unfold nt nt2 nt1
  rw [pk_us, pk_un (by omega), pk_un (by omega)]
theorem nt_e (s : Nat → Int32) (v : Nat) (c : Int32) : same3 s (nt s v c) := fun j a _ _ d => nt_o s v c (by omega) (by omega) (by omega)
theorem note_g (R : RS N s) {v : Nat} (hv : v < 24) (c : Int32) : ∀ j, 7 ≤ j → j ≤ 12 → (f_X5_noteAsking N (nI v) c).1 j = nt s v c (305 + j) := by
  intro j a b
  have e := R.2.2.2.2.2.2 j a b
  by_cases j9 : j = 9
  · subst j9
    rw [nt_314 s hv, ← e]
    rfl
  · by_cases j10 : j = 10
    · subst j10
      rw [nt_315 s hv, ← e]
      rfl
    · rw [nt_o s v c (by omega) (by omega) (by omega), ← e]
      show upd (upd N.1 9 _) 10 _ j = _
      rw [pk_un j10, pk_un j9]
theorem m5_n (h : OKB N s B) {v : Nat} (hv : rP s v) {N' : CS} {s' : Nat → Int32} (a1 : N'.2 5 = f_X3_put 24 (N.2 5) (nI v) (f_X5_askedFor N (nI v) + 1)) (a2 : s' (13 * v + 4) = s (13 * v + 4) + 1) (a3 : ∀ u, u < 24 → u ≠ v → s' (13 * u + 4) = s (13 * u + 4)) : ∀ u, rP s u → N'.2 5 u = s' (13 * u + 4) ∧ ∃ k, k ≤ B + 1 ∧ s' (13 * u + 4) = nI k := by
  intro u hu
  rw [a1, put_n _ _ hv.1 (by decide), asked_n h.2.2.1 hv]
  by_cases c : u = v
  · subst c
    obtain ⟨k, k1, k2⟩ := h.2.2.2 u hu
    rw [pk_us, a2]
    exact ⟨rfl, k + 1, by omega, by rw [k2]; exact nI_1 k⟩
  · obtain ⟨k, k1, k2⟩ := h.2.2.2 u hu
    rw [pk_un c, a3 u hu.1 c]
    exact ⟨(h.2.2.1.2.2.2.2.2.1 u hu).1, k, by omega, k2⟩
theorem FL.same {s' : Nat → Int32} (W : SH s) (L : FL s) (e : same3 s s') (e2 : ∀ v, rP s v → s' (13 * v + 2) = s (13 * v + 2)) (e3 : ∀ v, rP s v → s' (13 * v + 3) = s (13 * v + 3)) (e312 : G3 s') : FL s' := by
  obtain ⟨r, hr, -⟩ := L.2.1 0 W.p0
  refine FL.move W L e e2 e312 hr hr.1 rfl (fun y hy => ?_)
  rw [e3 y hy]
  by_cases c : y = r
  · subst c
    exact ⟨fun _ => Or.inl rfl, fun _ => hr.2⟩
  · exact ⟨fun z => Or.inr ⟨c, z⟩, fun z => z.elim (fun k => absurd k c) (fun k => k.2)⟩
theorem OKB.noted (h : OKB N s B) {v : Nat} (hv : rP s v) (c : Int32) : OKB (f_X5_noteAsking N (nI v) c) (nt s v c) (B + 1) := by
  have W := h.1
  have L := h.2.1
  have R := h.2.2.1
  have v24 := hv.1
  refine OKB.flags (N' := f_X5_noteAsking N (nI v) c) (B' := B + 1) h (nt_e s v c) (FL.same W L (nt_e s v c) (fun u hu => nt_o s v c (by omega) (by have := hu.1; omega) (by have := hu.1; omega)) (fun u hu => nt_o s v c (by omega) (by have := hu.1; omega) (by have := hu.1; omega)) (L.2.2.2.1.mod (nt_o s v c (by omega) (by decide) (by decide)) (nt_o s v c (by omega) (by decide) (by decide)))) rfl (fun i hi => ?_) (fun i hi => ?_) rfl rfl rfl (m5_n h hv rfl (nt_4 s v24 c) (fun u hu q => nt_o s v c (by omega) (by omega) (by omega))) (note_g R v24 c)
  · show bt (N.1 1) i = true ↔ _
    rw [k_i R hi]
    constructor
    · rintro ⟨p, q⟩
      have := p.1
      exact ⟨p, by unfold rH at *; rw [nt_o s v c (by omega) (by omega) (by omega)]; exact q⟩
    · rintro ⟨p, q⟩
      have := p.1
      exact ⟨p, by unfold rH at *; rw [nt_o s v c (by omega) (by omega) (by omega)] at q; exact q⟩
  · show bt (N.1 2) i = true ↔ _
    rw [t_i R hi]
    constructor
    · rintro ⟨p, q⟩
      have := p.1
      exact ⟨p, by rw [nt_o s v c (by omega) (by omega) (by omega)]; exact q⟩
    · rintro ⟨p, q⟩
      have := p.1
      exact ⟨p, by rw [nt_o s v c (by omega) (by omega) (by omega)] at q; exact q⟩
/-- the last step of a way, which is cut if the way is too long -/
theorem way_last (W : SH s) {w v : Nat} (hw : rP s w) (hv : rP s v) (e : rT s w = rT s v) (hD : 0 < yD s w v) : rP s (yP s w v (yD s w v - 1)) ∧ ((rH s v = true ∧ rU s v = yP s w v (yD s w v - 1) ∧ ¬ cm (rU s) (rH s) w v) ∨ (rH s (yP s w v (yD s w v - 1)) = true ∧ rU s (yP s w v (yD s w v - 1)) = v ∧ cm (rU s) (rH s) w (yP s w v (yD s w v - 1)) ∧ ¬ cm (rU s) (rH s) v (yP s w v (yD s w v - 1)) ∧ (0 < v → rU s v ≠ yP s w v (yD s w v - 1)))) := by
  have T := W.tr
  have hk : yD s w v - 1 < yD s w v := by omega
  obtain ⟨p1, p2⟩ := PP_P T hw hv e (k := yD s w v - 1) (Nat.le_of_lt hk)
  have e2 : PP (rU s) (rH s) w v (yD s w v - 1 + 1) = v := by
    rw [show yD s w v - 1 + 1 = yD s w v by omega]
    exact PP_end T hw hv e
  refine ⟨p1, ?_⟩
  rcases PP_step T hw hv e hk with ⟨c, a, b⟩ | ⟨c, a, g, b, d⟩
  · right
    rw [e2] at b
    have a1 : AA (rU s) (rH s) w v ≤ ht (rU s) (rH s) w := (AA_spec T hw hv e).1
    have el : yP s w v (yD s w v - 1) = itr (rU s) (yD s w v - 1) w := if_pos (Nat.le_of_lt a)
    have hl := (it_P T (yD s w v - 1) w hw (by omega)).2
    have gl : rH s (yP s w v (yD s w v - 1)) = true := hg_of T (by rw [el, hl]; omega)
    refine ⟨gl, b.symm, by rw [el]; exact cm_it T hw (by omega), c, fun v0 q => ?_⟩
    obtain ⟨r, hr⟩ := W.2.2.2
    have h1 := hr v v0 hv
    have h2 := hr _ (rH_pos gl).1 p1
    rw [q] at h1
    rw [show rU s (yP s w v (yD s w v - 1)) = v from b.symm] at h2
    omega
  · left
    rw [e2] at g b
    refine ⟨g, b, fun z => ?_⟩
    have h1 := (AA_cm T hv hw z).1
    have h2 : yD s w v = AA (rU s) (rH s) w v + AA (rU s) (rH s) v w := rfl
    have a : AA (rU s) (rH s) w v ≤ yD s w v - 1 := a
    omega
def qc0 (t : Nat → Int32) (x v : Nat) : Nat → Int32 := upd (upd t (13 * x + 2) 0) (13 * v + 3) 1
def qc (t : Nat → Int32) (x v : Nat) : Nat → Int32 := upd (qc0 t x v) 317 (qc0 t x v 317 + 1)
theorem qc_o (t : Nat → Int32) (x v : Nat) {j : Nat} (h1 : j ≠ 13 * x + 2) (h2 : j ≠ 13 * v + 3) (h3 : j ≠ 317) : qc t x v j = t j := by
  unfold qc qc0
  rw [pk_un h3, pk_un h2, pk_un h1]
theorem qc_2 (t : Nat → Int32) {x : Nat} (v : Nat) (hx : x < 24) : qc t x v (13 * x + 2) = 0 := by
  unfold qc qc0
  rw [pk_un (by omega), pk_un (by omega), pk_us]
theorem qc_3 (t : Nat → Int32) (x : Nat) {v : Nat} (hv : v < 24) : qc t x v (13 * v + 3) = 1 := by
  unfold qc qc0
  rw [pk_un (by omega), pk_us]
theorem qc_317 (t : Nat → Int32) {x v : Nat} (hx : x < 24) (hv : v < 24) : qc t x v 317 = t 317 + 1 := by
  unfold qc qc0
  rw [pk_us, pk_un (by omega), pk_un (by omega)]
theorem OKB.askcut (h : OKB N s B) {x v w : Nat} (hv : rP s v) (c : Int32) (hx : rP s x) (gx : rH s x = true) (hw : rR s w) (hwx : rT s w = rT s x) (hyx : rT s v = rT s x) (hc : cm (rU s) (rH s) v x ↔ ¬ cm (rU s) (rH s) w x) : OKB (setI (f_X5_addRoot (f_X5_cutDifference (f_X5_noteAsking N (nI v) c) (nI x)) (nI v)) 12 ((f_X5_addRoot (f_X5_cutDifference (f_X5_noteAsking N (nI v) c) (nI x)) (nI v)).1 12 + 1)) (qc (nt s v c) x v) (B + 1) := by
  have W := h.1
  have L := h.2.1
  have R := h.2.2.1
  have v24 := hv.1
  have x24 := hx.1
  have e : same3 s (qc (nt s v c) x v) := fun j a b c1 d => (qc_o _ x v (by omega) (by omega) (by omega)).trans (nt_o s v c (by omega) (by omega) (by omega))
  have e2 : ∀ u, rP s u → u ≠ x → qc (nt s v c) x v (13 * u + 2) = s (13 * u + 2) := fun u hu n => by
    have := hu.1
    rw [qc_o _ x v (by omega) (by omega) (by omega), nt_o s v c (by omega) (by omega) (by omega)]
  have e3 : ∀ u, rP s u → (qc (nt s v c) x v (13 * u + 3) = 1 ↔ (u = v ∨ s (13 * u + 3) = 1)) := fun u hu => by
    have := hu.1
    by_cases q : u = v
    · subst q
      exact ⟨fun _ => Or.inl rfl, fun _ => qc_3 _ x v24⟩
    · rw [qc_o _ x v (by omega) (by omega) (by omega), nt_o s v c (by omega) (by omega) (by omega)]
      exact ⟨Or.inr, fun z => z.elim (fun k => absurd k q) id⟩
  refine OKB.flags (N' := setI (f_X5_addRoot (f_X5_cutDifference (f_X5_noteAsking N (nI v) c) (nI x)) (nI v)) 12 ((f_X5_addRoot (f_X5_cutDifference (f_X5_noteAsking N (nI v) c) (nI x)) (nI v)).1 12 + 1)) (B' := B + 1) h e (FL.cut W L e hx gx e2 (qc_2 _ v x24) (L.2.2.2.1.mod ?_ ?_) hw hwx hv hyx hc e3) rfl (fun i hi => ?_) (fun i hi => ?_) rfl rfl rfl (m5_n h hv rfl ?_ (fun u hu q => ?_)) (fun j a b => ?_)
  · rw [qc_o _ x v (by omega) (by omega) (by omega), nt_o s v c (by omega) (by omega) (by omega)]
  · rw [qc_o _ x v (by omega) (by omega) (by omega), nt_o s v c (by omega) (by omega) (by omega)]
  · show bt (N.1 1 &&& (f_X4_of (nI x) ^^^ (-1))) i = true ↔ _
    rw [band_i x24 hi, k_i R hi]
    by_cases q : i = x
    · subst q
      refine ⟨fun z => absurd rfl z.2, fun z => ?_⟩
      have := (rH_pos z.2).2
      rw [qc_2 _ v x24] at this
      exact absurd this (by decide)
    · constructor
      · rintro ⟨⟨p, z⟩, -⟩
        exact ⟨p, by unfold rH at *; rw [e2 i p q]; exact z⟩
      · rintro ⟨p, z⟩
        exact ⟨⟨p, by unfold rH at *; rw [e2 i p q] at z; exact z⟩, q⟩
  · show bt (N.1 2 ||| f_X4_of (nI v)) i = true ↔ _
    rw [bor_i v24 hi, t_i R hi]
    constructor
    · rintro (z | z)
      · exact ⟨z.1, (e3 i z.1).mpr (Or.inr z.2)⟩
      · subst z
        exact ⟨hv, (e3 i hv).mpr (Or.inl rfl)⟩
    · rintro ⟨p, z⟩
      rcases (e3 i p).mp z with z | z
      · exact Or.inr z
      · exact Or.inl ⟨p, z⟩
  · rw [qc_o _ x v (by omega) (by omega) (by omega)]
    exact nt_4 s v24 c
  · rw [qc_o _ x v (by omega) (by omega) (by omega), nt_o s v c (by omega) (by omega) (by omega)]
  · have g := note_g R v24 c j a b
    by_cases j12 : j = 12
    · subst j12
      rw [show 305 + 12 = 317 from rfl, qc_317 _ x24 v24, ← g]
      rfl
    · rw [qc_o _ x v (by omega) (by omega) (by omega), ← g]
      show upd (upd (upd (f_X5_noteAsking N (nI v) c).1 1 _) 2 _) 12 _ j = _
      rw [pk_un j12, pk_un (by omega), pk_un (by omega)]
end ASKS
/-! PURE PART. ask, tried -/
section TAS
variable {N : CS} {B : Nat}
theorem OKB.up316 {s : Nat → Int32} (h : OKB N s B) : OKB (setI N 11 (N.1 11 + 1)) (upd s 316 (s 316 + 1)) B := by
  refine h.glob (fun j hj => pk_un (by omega)) (h.2.1.2.2.2.1.mod (pk_un (by decide)) (pk_un (by decide))) (fun j hj => setI_n N _ (by omega)) rfl (fun j a b => ?_)
  have g := h.2.2.1.2.2.2.2.2.2 j a b
  by_cases c : j = 11
  · subst c
    rw [setI_s, show 305 + 11 = 316 from rfl, pk_us, g]
  · rw [setI_n N _ c, pk_un (by omega), g]
end TAS
/-! PURE PART. a version is born -/
section BORN
variable {N : CS} {s : Nat → Int32} {B : Nat}
theorem nume (N : CS) {v c : Nat} (hv : v < 24) (hc : c < 8) : f_X5_numberIn N (nI v) (nI c) = N.2 6 (8 * v + c) := by
  unfold f_X5_numberIn
  rw [show (8 : Int32) = nI 8 from rfl, pk_mul, nI_add, at_n _ (by omega) (by decide), show v * 8 + c = 8 * v + c by omega]
theorem pute (N : CS) {v c : Nat} (hv : v < 24) (hc : c < 8) (x : Int32) : f_X5_putNumber N (nI v) (nI c) x = setF N 6 (upd (N.2 6) (8 * v + c) x) := by
  unfold f_X5_putNumber
  simp only [bind1]
  rw [show (8 : Int32) = nI 8 from rfl, pk_mul, nI_add, put_n _ _ (by omega) (by decide), show v * 8 + c = 8 * v + c by omega]
theorem unl_g {v u : Nat} (hv : v < 24) (hu : u < 24) (ev : ∀ c, c < 8 → N.2 6 (8 * v + c) = s (13 * v + (5 + c))) (eu : ∀ c, c < 8 → N.2 6 (8 * u + c) = s (13 * u + (5 + c))) : ∀ j, j < 32 → bt (f_X5_unlikeCells N (nI v) (nI u)) j = (decide (j < 8) && un s v u j) := by
  have key : ∀ (n i : Nat) (x : Int32), i ≤ 8 → i + n = 9 → (∀ j, j < 32 → bt x j = (decide (j < i) && un s v u j)) → ∀ j, j < 32 → bt (l_X5_unlikeCells_5 N (nI v) (nI u) n x i) j = (decide (j < 8) && un s v u j) := by
    intro n
    induction n with
    | zero => intro i x h1 h2; omega
    | succ n ih =>
      intro i x h1 h2 hx
      rw [l_X5_unlikeCells_5]
      by_cases c : i < 8
      · rw [if_pos c, nume N hv c, nume N hu c, ev i c, eu i c]
        by_cases d : s (13 * v + (5 + i)) = s (13 * u + (5 + i))
        · have e : un s v u i = false := by unfold un; simp [d]
          rw [if_pos d]
          refine ih (i + 1) x (by omega) (by omega) (fun j hj => ?_)
          rw [hx j hj]
          by_cases q : j = i
          · subst q; simp [e]
          · have : (decide (j < i + 1)) = decide (j < i) := decide_eq_decide.mpr (by omega)
            rw [this]
        · have e : un s v u i = true := by unfold un; simp [d]
          rw [if_neg d]
          refine ih (i + 1) _ (by omega) (by omega) (fun j hj => ?_)
          rw [bt_or, bt_of (by omega) hj, hx j hj]
          by_cases q : j = i
          · subst q; simp [e]
          · have : (decide (j < i + 1)) = decide (j < i) := decide_eq_decide.mpr (by omega)
            rw [this]; simp [q]
      · have : i = 8 := by omega
        subst this
        rw [if_neg c]
        exact hx
  exact key 9 0 0 (by decide) (by decide) (fun j _ => by rw [bt_0]; simp)
theorem OKB.born (h : OKB N s B) {v u : Nat} (v24 : v < 24) (nv : ¬ rP s v) (hu : rP s u) {N2 : CS} {s' : Nat → Int32} (e : ∀ j, j < 318 → (j < 13 * v ∨ 13 * v + 13 ≤ j) → s' j = s j) (e0 : s' (13 * v) = 1) (e1 : s' (13 * v + 1) = nI u) (e2 : s' (13 * v + 2) = 1) (e3 : s' (13 * v + 3) = 0) (e4 : s' (13 * v + 4) = 0) (i2 : N2.1 = N.1) (a2 : ∀ j, j ≠ 6 → N2.2 j = N.2 j) (c1 : ∀ w c, w < 24 → w ≠ v → c < 8 → N2.2 6 (8 * w + c) = N.2 6 (8 * w + c)) (c2 : ∀ c, c < 8 → N2.2 6 (8 * v + c) = s' (13 * v + (5 + c))) : OKB (f_X5_hang N2 (nI v) (nI u)) s' B := by
  obtain ⟨W, L, R, b⟩ := h
  have u24 := hu.1
  have uv : u ≠ v := fun z => nv (z ▸ hu)
  have v0 : 0 < v := by
    rcases Nat.eq_zero_or_pos v with z | z
    · exact absurd W.p0 (z ▸ nv)
    · exact z
  have pw : ∀ w, rP s' w ↔ (rP s w ∨ w = v) := by
    intro w
    by_cases c : w = v
    · subst c
      exact ⟨fun _ => Or.inr rfl, fun _ => ⟨v24, e0⟩⟩
    · constructor
      · rintro ⟨p, q⟩
        exact Or.inl ⟨p, by rw [← e _ (by omega) (by omega)]; exact q⟩
      · rintro (⟨p, q⟩ | q)
        · exact ⟨p, by rw [e _ (by omega) (by omega)]; exact q⟩
        · exact absurd q c
  have ne : ∀ w, rP s w → w ≠ v := fun w hw z => nv (z ▸ hw)
  have eo : ∀ w k, rP s w → k < 13 → s' (13 * w + k) = s (13 * w + k) := fun w k hw hk => by
    have := hw.1
    have := ne w hw
    exact e _ (by omega) (by omega)
  have hU : ∀ w, rP s w → rU s' w = rU s w := fun w hw => by unfold rU; rw [eo w 1 hw (by decide)]
  have hUv : rU s' v = u := by unfold rU; rw [e1, nI_clamp (by omega)]
  have hH : ∀ w, rP s w → rH s' w = rH s w := fun w hw => by unfold rH; rw [eo w 2 hw (by decide)]
  have hHv : rH s' v = true := by unfold rH; rw [e2]; simp [v0]
  have W' : SH s' := by
    refine ⟨by rw [e 0 (by decide) (by omega)]; exact W.1, fun w hw => ?_, fun w p hw => ?_, ?_⟩
    · by_cases c : w = v
      · subst c; exact Or.inr e0
      · rw [e _ (by omega) (by omega)]; exact W.2.1 w hw
    · rcases (pw w).mp hw with q | q
      · rw [hU w q, eo w 1 q (by decide)]
        exact ⟨(W.2.2.1 w p q).1, (pw _).mpr (Or.inl (W.2.2.1 w p q).2)⟩
      · subst q
        rw [hUv]
        exact ⟨e1, (pw u).mpr (Or.inl hu)⟩
    · obtain ⟨r, hr⟩ := W.2.2.2
      refine ⟨fun w => if w = v then r u + 1 else r w, fun w p hw => ?_⟩
      rcases (pw w).mp hw with q | q
      · have h1 := hr w p q
        have h2 := (W.2.2.1 w p q).2
        rw [hU w q]
        show (if rU s w = v then r u + 1 else r (rU s w)) < (if w = v then r u + 1 else r w)
        rw [if_neg (ne _ h2), if_neg (ne w q)]
        exact h1
      · subst q
        rw [hUv]
        show (if u = w then r u + 1 else r u) < (if w = w then r u + 1 else r w)
        rw [if_neg uv, if_pos rfl]
        omega
  have hT : ∀ w, rP s w → rT s' w = rT s w := fun w hw => (tree_congr W.tr hH (fun w hw _ => hU w hw) _ w hw (Nat.le_refl _)).2.1
  have pv : rP s' v := (pw v).mpr (Or.inr rfl)
  have hTv : rT s' v = rT s u := by
    have := tp_up W'.tr pv hHv
    rw [hUv] at this
    exact this.symm.trans (hT u hu)
  have rw' : ∀ w, rR s' w ↔ rR s w := by
    intro w
    unfold rR
    constructor
    · rintro ⟨p, q⟩
      rcases (pw w).mp p with z | z
      · exact ⟨z, by rw [← eo w 3 z (by decide)]; exact q⟩
      · subst z
        rw [e3] at q
        exact absurd q (by decide)
    · rintro ⟨p, q⟩
      exact ⟨(pw w).mpr (Or.inl p), by rw [eo w 3 p (by decide)]; exact q⟩
  have pe : ∀ i, pB s' i = true ↔ (pB s i = true ∨ i = v) := fun i => by rw [pB_iff, pB_iff]; exact pw i
  have un0 : ∀ w x j, rP s w → rP s x → j < 8 → un s' w x j = un s w x j := fun w x j hw hx hj => by
    unfold un
    rw [eo w _ hw (by omega), eo x _ hx (by omega)]
  refine ⟨W', ⟨fun w p hw => ?_, fun w hw => ?_, fun y1 y2 h1 h2 t => ?_, L.2.2.2.1.mod (e 312 (by decide) (by omega)) (e 313 (by decide) (by omega)), by rw [e 1 (by decide) (by omega)]; exact L.2.2.2.2⟩, ⟨fun i hi => ?_, fun i hi => ?_, fun i hi => ?_, ?_, fun w p hw => ?_, fun w hw => ?_, fun j a c => ?_⟩, fun w hw => ?_⟩
  · rcases (pw w).mp hw with q | q
    · rw [eo w 2 q (by decide)]; exact L.1 w p q
    · subst q; exact Or.inr e2
  · rcases (pw w).mp hw with q | q
    · obtain ⟨x, x1, x2⟩ := L.2.1 w q
      exact ⟨x, (rw' x).mpr x1, by rw [hT x x1.1, hT w q]; exact x2⟩
    · subst q
      obtain ⟨x, x1, x2⟩ := L.2.1 u hu
      exact ⟨x, (rw' x).mpr x1, by rw [hT x x1.1, hTv]; exact x2⟩
  · have r1 := (rw' y1).mp h1
    have r2 := (rw' y2).mp h2
    rw [hT y1 r1.1, hT y2 r2.1] at t
    exact L.2.2.1 y1 y2 r1 r2 t
  · show bt (N2.1 0 ||| f_X4_of (nI v)) i = _
    rw [Bool.eq_iff_iff, bor_i v24 hi, i2, R.1 i hi, pe]
  · show bt (N2.1 1 ||| f_X4_of (nI v)) i = _
    rw [Bool.eq_iff_iff, bor_i v24 hi, i2, k_i R hi, Bool.and_eq_true, pe, pB_iff]
    constructor
    · rintro (⟨p, q⟩ | q)
      · exact ⟨Or.inl p, by rw [hH i p]; exact q⟩
      · exact ⟨Or.inr q, by rw [q]; exact hHv⟩
    · rintro ⟨p | p, q⟩
      · exact Or.inl ⟨p, by rw [← hH i p]; exact q⟩
      · exact Or.inr p
  · show bt (N2.1 2) i = _
    rw [Bool.eq_iff_iff, i2, t_i R hi, tB_iff]
    exact (rw' i).symm
  · show f_X3_put 24 (N2.2 3) (nI v) (nI u) 0 = 0 ∧ f_X3_put 24 (N2.2 4) (nI v) _ 0 = 0
    rw [put_n _ _ v24 (by decide), put_n _ _ v24 (by decide), pk_un (by omega), pk_un (by omega), a2 3 (by decide), a2 4 (by decide)]
    exact R.2.2.2.1
  · show f_X3_put 24 (N2.2 3) (nI v) (nI u) w = _ ∧ ∀ j, j < 32 → bt (f_X3_put 24 (N2.2 4) (nI v) (f_X5_unlikeCells (setF (setI N2 0 (N2.1 0 ||| f_X4_of (nI v))) 3 (f_X3_put 24 (N2.2 3) (nI v) (nI u))) (nI v) (nI u)) w) j = _
    rw [put_n _ _ v24 (by decide), put_n _ _ v24 (by decide), a2 3 (by decide), a2 4 (by decide)]
    rcases (pw w).mp hw with q | q
    · rw [pk_un (ne w q), pk_un (ne w q), hU w q]
      obtain ⟨d1, d2⟩ := R.2.2.2.2.1 w p q
      refine ⟨d1, fun j hj => ?_⟩
      rw [d2 j hj]
      by_cases c : j < 8
      · rw [un0 w _ j q (W.2.2.1 w p q).2 c]
      · simp [c]
    · subst q
      rw [pk_us, pk_us, hUv]
      exact ⟨rfl, unl_g v24 u24 c2 (fun c hc => by
        show N2.2 6 (8 * u + c) = _
        rw [c1 u c u24 uv hc, eo u _ hu (by omega)]
        exact (R.2.2.2.2.2.1 u hu).2 c hc)⟩
  · show f_X3_put 24 (N2.2 5) (nI v) 0 w = _ ∧ ∀ c, c < 8 → N2.2 6 (8 * w + c) = _
    rw [put_n _ _ v24 (by decide), a2 5 (by decide)]
    rcases (pw w).mp hw with q | q
    · rw [pk_un (ne w q)]
      obtain ⟨d1, d2⟩ := R.2.2.2.2.2.1 w q
      exact ⟨by rw [eo w 4 q (by decide)]; exact d1, fun c hc => by rw [c1 w c q.1 (ne w q) hc, eo w _ q (by omega)]; exact d2 c hc⟩
    · subst q
      rw [pk_us]
      exact ⟨e4.symm, c2⟩
  · rw [e _ (by omega) (by omega), ← R.2.2.2.2.2.2 j a c, ← i2]
    show upd (upd N2.1 0 _) 1 _ j = _
    rw [pk_un (by omega), pk_un (by omega)]
  · rcases (pw w).mp hw with q | q
    · rw [eo w 4 q (by decide)]; exact b w q
    · subst q
      exact ⟨0, Nat.zero_le _, e4⟩
end BORN
/-! PURE PART. make, mix -/
section MKS
variable {N : CS} {s : Nat → Int32} {B : Nat}
theorem copy_n {a b : Nat} (ha : a < 24) (hb : b < 24) (hab : a ≠ b) (x : Int32) : ∀ (m i : Nat) (Z : CS), i ≤ 8 → i + m = 9 → (l_X5_copyCells_3 (nI a) (nI b) x m Z i).1 = Z.1 ∧ (∀ j, j ≠ 6 → (l_X5_copyCells_3 (nI a) (nI b) x m Z i).2 j = Z.2 j) ∧ (∀ j, (j < 8 * b + i ∨ 8 * b + 8 ≤ j) → (l_X5_copyCells_3 (nI a) (nI b) x m Z i).2 6 j = Z.2 6 j) ∧ ∀ c, i ≤ c → c < 8 → (l_X5_copyCells_3 (nI a) (nI b) x m Z i).2 6 (8 * b + c) = if bt x c = true then Z.2 6 (8 * a + c) else Z.2 6 (8 * b + c) := by
  intro m
  induction m with
  | zero => intro i Z h1 h2; omega
  | succ m ih =>
    intro i Z h1 h2
    rw [l_X5_copyCells_3]
    by_cases q : i < 8
    · rw [if_pos q, isIn_nI (show i < 24 by omega)]
      by_cases d : bt x i = true
      · rw [if_pos d]
        simp only [bind1]
        rw [nume Z ha q, pute Z hb q]
        obtain ⟨r1, r2, r3, r4⟩ := ih (i + 1) (setF Z 6 (upd (Z.2 6) (8 * b + i) (Z.2 6 (8 * a + i)))) (by omega) (by omega)
        refine ⟨r1, fun j hj => (r2 j hj).trans (setF_n Z _ hj), fun j hj => ?_, fun c hc hc2 => ?_⟩
        · rw [r3 j (by omega), setF_s, pk_un (by omega)]
        · by_cases z : c = i
          · subst z
            rw [r3 _ (by omega), setF_s, pk_us, if_pos d]
          · rw [r4 c (by omega) hc2, setF_s, pk_un (by omega), pk_un (by omega)]
      · rw [if_neg d]
        obtain ⟨r1, r2, r3, r4⟩ := ih (i + 1) Z (by omega) (by omega)
        refine ⟨r1, r2, fun j hj => r3 j (by omega), fun c hc hc2 => ?_⟩
        by_cases z : c = i
        · subst z
          rw [r3 _ (by omega), if_neg d]
        · exact r4 c (by omega) hc2
    · rw [if_neg q]
      exact ⟨rfl, fun _ _ => rfl, fun _ _ => rfl, fun c a b => by omega⟩
theorem bt255 {c : Nat} (h : c < 8) : bt 255 c = true := by
  have e : ∀ c : Fin 8, bt 255 c.1 = true := by decide +kernel
  exact e ⟨c, h⟩
end MKS
/-! PURE PART. remove -/
section RMV
variable {N : CS} {s : Nat → Int32} {s : Nat → Int32} {B : Nat}
theorem leaf_n (R : RS N s) {v : Nat} (hv : v < 24) (W : SH s) : ∃ k, k ≤ 24 ∧ f_X5_madeOf N (nI v) = nI k ∧ (k = 0 → ∀ w, rP s w → 0 < w → rU s w ≠ v) := by
  have key : ∀ (m i c : Nat), 1 ≤ i → i ≤ 24 → i + m = 25 → ∃ k, c ≤ k ∧ k + i ≤ c + 24 ∧ l_X5_madeOf_4 N (nI v) m c i = nI k ∧ (k = c → ∀ w, i ≤ w → rP s w → rU s w ≠ v) := by
    intro m
    induction m with
    | zero => intro i c h1 h2; omega
    | succ m ih =>
      intro i c h1 h2 h3
      rw [l_X5_madeOf_4]
      by_cases q : i < 24
      · rw [if_pos q, has_n R q]
        by_cases p : pB s i = true
        · have hp := pB_iff.mp p
          have hu := (W.2.2.1 i (by omega) hp).2.1
          rw [if_pos p, src_s R hp (by omega)]
          have z : nI (rU s i) = nI v ↔ rU s i = v := nI_eq (by omega) (by omega)
          by_cases y : rU s i = v
          · rw [if_pos (z.mpr y)]
            obtain ⟨k, k1, k2, k3, k4⟩ := ih (i + 1) (c + 1) (by omega) (by omega) (by omega)
            exact ⟨k, by omega, by omega, k3, fun e => by omega⟩
          · rw [if_neg (fun x => y (z.mp x))]
            obtain ⟨k, k1, k2, k3, k4⟩ := ih (i + 1) c (by omega) (by omega) (by omega)
            refine ⟨k, k1, by omega, k3, fun e w hw hP => ?_⟩
            by_cases x : w = i
            · rw [x]; exact y
            · exact k4 e w (by omega) hP
        · rw [if_neg p]
          obtain ⟨k, k1, k2, k3, k4⟩ := ih (i + 1) c (by omega) (by omega) (by omega)
          refine ⟨k, k1, by omega, k3, fun e w hw hP => ?_⟩
          by_cases x : w = i
          · exact absurd (pB_iff.mpr (x ▸ hP)) p
          · exact k4 e w (by omega) hP
      · rw [if_neg q]
        exact ⟨c, Nat.le_refl _, by omega, rfl, fun _ w hw hP => by have := hP.1; omega⟩
  obtain ⟨k, k1, k2, k3, k4⟩ := key 24 1 0 (by decide) (by decide) (by decide)
  exact ⟨k, by omega, k3, fun e w hw h0 => k4 e w h0 hw⟩
theorem OKB.removed (h : OKB N s B) {v : Nat} (hv : rP s v) (v0 : 0 < v) (leaf : ∀ w, rP s w → 0 < w → rU s w ≠ v) {s' : Nat → Int32} {N1 : CS} (z : ∀ k, k < 13 → s' (13 * v + k) = 0) (e : ∀ j, j < 318 → (j < 13 * v ∨ 13 * v + 13 ≤ j) → j ≠ 13 * rU s v + 3 → s' j = s j) (e3 : (rR s v ∧ rH s v = true → s' (13 * rU s v + 3) = 1) ∧ (¬ (rR s v ∧ rH s v = true) → s' (13 * rU s v + 3) = s (13 * rU s v + 3))) (n1 : ∀ j, j ≠ 2 → N1.1 j = N.1 j) (n2 : N1.2 = N.2) (n3 : ∀ i, i < 32 → (bt (N1.1 2) i = true ↔ (rR s i ∨ ((rR s v ∧ rH s v = true) ∧ i = rU s v)))) : OKB (f_X5_drop N1 (nI v)) s' B := by
  obtain ⟨W, L, R, b⟩ := h
  have v24 := hv.1
  have hu := (W.2.2.1 v v0 hv).2
  have u24 := hu.1
  have uv : rU s v ≠ v := by
    obtain ⟨r, hr⟩ := W.2.2.2
    have := hr v v0 hv
    intro q
    rw [q] at this
    omega
  have pw : ∀ w, rP s' w ↔ (rP s w ∧ w ≠ v) := by
    intro w
    constructor
    · rintro ⟨p, q⟩
      by_cases c : w = v
      · subst c
        have := z 0 (by decide)
        rw [show 13 * w + 0 = 13 * w from rfl, q] at this
        exact absurd this (by decide)
      · exact ⟨⟨p, by rw [← e _ (by omega) (by omega) (by omega)]; exact q⟩, c⟩
    · rintro ⟨⟨p, q⟩, c⟩
      exact ⟨p, by rw [e _ (by omega) (by omega) (by omega)]; exact q⟩
  have eo : ∀ w k, rP s w → w ≠ v → k < 13 → (k ≠ 3 ∨ w ≠ rU s v) → s' (13 * w + k) = s (13 * w + k) := fun w k hw c hk d => by
    have := hw.1
    exact e _ (by omega) (by omega) (by omega)
  have hU : ∀ w, rP s' w → rU s w = rU s' w := fun w hw => by
    have hw := (pw w).mp hw
    unfold rU
    rw [eo w 1 hw.1 hw.2 (by decide) (by omega)]
  have hH : ∀ w, rP s' w → rH s w = rH s' w := fun w hw => by
    have hw := (pw w).mp hw
    unfold rH
    rw [eo w 2 hw.1 hw.2 (by decide) (by omega)]
  have W' : SH s' := by
    refine ⟨by rw [e 0 (by decide) (by omega) (by omega)]; exact W.1, fun w hw => ?_, fun w p hw => ?_, ?_⟩
    · by_cases c : w = v
      · subst c; exact Or.inl (z 0 (by decide))
      · rw [e _ (by omega) (by omega) (by omega)]; exact W.2.1 w hw
    · have q := (pw w).mp hw
      rw [← hU w hw, eo w 1 q.1 q.2 (by decide) (by omega)]
      exact ⟨(W.2.2.1 w p q.1).1, (pw _).mpr ⟨(W.2.2.1 w p q.1).2, leaf w q.1 p⟩⟩
    · obtain ⟨r, hr⟩ := W.2.2.2
      refine ⟨r, fun w p hw => ?_⟩
      rw [← hU w hw]
      exact hr w p ((pw w).mp hw).1
  have hT : ∀ w, rP s' w → rT s w = rT s' w := fun w hw => (tree_congr W'.tr hH (fun w hw _ => hU w hw) _ w hw (Nat.le_refl _)).2.1
  have pu : rP s' (rU s v) := (pw _).mpr ⟨hu, uv⟩
  have up : ∀ x, rP s x → x ≠ v → s (13 * x + 3) = 1 → s' (13 * x + 3) = 1 := fun x hx c d => by
    by_cases q : x = rU s v
    · by_cases f : rR s v ∧ rH s v = true
      · rw [q]; exact e3.1 f
      · rw [q, e3.2 f, ← q]; exact d
    · rw [eo x 3 hx c (by decide) (Or.inr q)]; exact d
  have rr : ∀ x, rR s' x ↔ ((rR s x ∨ ((rR s v ∧ rH s v = true) ∧ x = rU s v)) ∧ x ≠ v) := by
    intro x
    constructor
    · rintro ⟨p, q⟩
      obtain ⟨p1, p2⟩ := (pw x).mp p
      refine ⟨?_, p2⟩
      by_cases c : x = rU s v
      · by_cases f : rR s v ∧ rH s v = true
        · exact Or.inr ⟨f, c⟩
        · rw [c, e3.2 f, ← c] at q
          exact Or.inl ⟨p1, q⟩
      · rw [eo x 3 p1 p2 (by decide) (Or.inr c)] at q
        exact Or.inl ⟨p1, q⟩
    · rintro ⟨p | ⟨f, p⟩, q⟩
      · exact ⟨(pw x).mpr ⟨p.1, q⟩, up x p.1 q p.2⟩
      · rw [p]
        exact ⟨pu, e3.1 f⟩
  have notv : ∀ w, rP s w → w ≠ v → rT s w ≠ v := fun w hw c q => by
    have h1 := cm_top W.tr hw
    have q : tp (rU s) (rH s) w = v := q
    rw [q] at h1
    obtain ⟨x, x1, x2, x3, -⟩ := cm_child W.tr hw h1 (fun y => c y.symm)
    exact leaf x (cm_P W.tr hw x3) (rH_pos x1).1 x2
  have un0 : ∀ w x j, rP s' w → rP s' x → j < 8 → un s' w x j = un s w x j := fun w x j hw hx hj => by
    have hw := (pw w).mp hw
    have hx := (pw x).mp hx
    unfold un
    rw [eo w _ hw.1 hw.2 (by omega) (by omega), eo x _ hx.1 hx.2 (by omega) (by omega)]
  refine ⟨W', ⟨fun w p hw => ?_, fun w hw => ?_, fun y1 y2 h1 h2 t => ?_, L.2.2.2.1.mod (e 312 (by decide) (by omega) (by omega)) (e 313 (by decide) (by omega) (by omega)), by rw [e 1 (by decide) (by omega) (by omega)]; exact L.2.2.2.2⟩, ⟨fun i hi => ?_, fun i hi => ?_, fun i hi => ?_, ?_, fun w p hw => ?_, fun w hw => ?_, fun j a c => ?_⟩, fun w hw => ?_⟩
  · have q := (pw w).mp hw
    rw [eo w 2 q.1 q.2 (by decide) (by omega)]
    exact L.1 w p q.1
  · have q := (pw w).mp hw
    obtain ⟨x, x1, x2⟩ := L.2.1 w q.1
    by_cases c : x = v
    · have g : rH s v = true := by
        by_cases g : rH s v = true
        · exact g
        · have tv : rT s v = v := tp_no g
          rw [c, tv] at x2
          exact absurd x2.symm (notv w q.1 q.2)
      have f : rR s v ∧ rH s v = true := ⟨c ▸ x1, g⟩
      refine ⟨rU s v, ⟨pu, e3.1 f⟩, ?_⟩
      rw [← hT _ pu, ← hT w hw, ← x2, c]
      exact tp_up W.tr hv g
    · have x3 : rR s' x := (rr x).mpr ⟨Or.inl x1, c⟩
      exact ⟨x, x3, by rw [← hT x x3.1, ← hT w hw]; exact x2⟩
  · rw [← hT y1 h1.1, ← hT y2 h2.1] at t
    obtain ⟨a1, b1⟩ := (rr y1).mp h1
    obtain ⟨a2, b2⟩ := (rr y2).mp h2
    rcases a1 with a1 | ⟨f1, a1⟩
    · rcases a2 with a2 | ⟨f2, a2⟩
      · exact L.2.2.1 y1 y2 a1 a2 t
      · rw [a2] at t
        exact absurd (L.2.2.1 y1 v a1 f2.1 (t.trans (tp_up W.tr hv f2.2))) b1
    · rcases a2 with a2 | ⟨f2, a2⟩
      · rw [a1] at t
        exact absurd (L.2.2.1 y2 v a2 f1.1 (t.symm.trans (tp_up W.tr hv f1.2))) b2
      · rw [a1, a2]
  · show bt (N1.1 0 &&& (f_X4_of (nI v) ^^^ (-1))) i = _
    rw [Bool.eq_iff_iff, band_i v24 hi, n1 0 (by decide), p_i R hi, pB_iff]
    exact (pw i).symm
  · show bt (N1.1 1 &&& (f_X4_of (nI v) ^^^ (-1))) i = _
    rw [Bool.eq_iff_iff, band_i v24 hi, n1 1 (by decide), k_i R hi, Bool.and_eq_true, pB_iff]
    constructor
    · rintro ⟨⟨p, q⟩, c⟩
      have pp := (pw i).mpr ⟨p, c⟩
      exact ⟨pp, by rw [← hH i pp]; exact q⟩
    · rintro ⟨p, q⟩
      obtain ⟨p1, p2⟩ := (pw i).mp p
      exact ⟨⟨p1, by rw [hH i p]; exact q⟩, p2⟩
  · show bt (N1.1 2 &&& (f_X4_of (nI v) ^^^ (-1))) i = _
    rw [Bool.eq_iff_iff, band_i v24 hi, n3 i hi, tB_iff]
    exact (rr i).symm
  · show N1.2 3 0 = 0 ∧ N1.2 4 0 = 0
    rw [n2]
    exact R.2.2.2.1
  · show N1.2 3 w = _ ∧ ∀ j, j < 32 → bt (N1.2 4 w) j = _
    have q := (pw w).mp hw
    rw [n2, ← hU w hw]
    obtain ⟨d1, d2⟩ := R.2.2.2.2.1 w p q.1
    refine ⟨d1, fun j hj => ?_⟩
    rw [d2 j hj]
    by_cases c : j < 8
    · rw [un0 w _ j hw ((pw _).mpr ⟨(W.2.2.1 w p q.1).2, leaf w q.1 p⟩) c]
    · simp [c]
  · show N1.2 5 w = _ ∧ ∀ c, c < 8 → N1.2 6 (8 * w + c) = _
    have q := (pw w).mp hw
    rw [n2]
    obtain ⟨d1, d2⟩ := R.2.2.2.2.2.1 w q.1
    exact ⟨by rw [eo w 4 q.1 q.2 (by decide) (by omega)]; exact d1, fun c hc => by rw [eo w _ q.1 q.2 (by omega) (by omega)]; exact d2 c hc⟩
  · rw [e _ (by omega) (by omega) (by omega), ← R.2.2.2.2.2.2 j a c, ← n1 j (by omega)]
    show upd (upd (upd N1.1 0 _) 1 _) 2 _ j = _
    rw [pk_un (by omega), pk_un (by omega), pk_un (by omega)]
  · have q := (pw w).mp hw
    rw [eo w 4 q.1 q.2 (by decide) (by omega)]
    exact b w q.1
end RMV
/-! PURE PART. remove, the call -/
section RMS
variable {N : CS} {s : Nat → Int32} {B : Nat}
def remN (N : CS) (a : Int32) : CS := if f_X5_isRoot N a = true then (if f_X5_isKept N a = true then f_X5_addRoot N (f_X5_sourceOf N a) else N) else N
end RMS
/-! PURE PART. the start -/
def initMoS : Nat → Int32 := upd (upd (upd (upd (upd (fun _ => 0) 0 1) 1 (-5)) 3 1) 312 1) 313 6
theorem ini0 {j : Nat} (h0 : j ≠ 0) (h1 : j ≠ 1) (h3 : j ≠ 3) (h4 : j ≠ 312) (h5 : j ≠ 313) : initMoS j = 0 := by
  unfold initMoS
  rw [pk_un h5, pk_un h4, pk_un h3, pk_un h1, pk_un h0]
theorem ini_P {v : Nat} (h : rP initMoS v) : v = 0 := by
  obtain ⟨a, b⟩ := h
  by_cases c : v = 0
  · exact c
  · rw [ini0 (by omega) (by omega) (by omega) (by omega) (by omega)] at b
    exact absurd b (by decide)
theorem ini_0 : initMoS 0 = 1 ∧ initMoS 1 = -5 ∧ initMoS 3 = 1 ∧ initMoS 312 = 1 ∧ initMoS 313 = 6 := by
  unfold initMoS
  refine ⟨?_, ?_, ?_, ?_, ?_⟩
  · rw [pk_un (by decide), pk_un (by decide), pk_un (by decide), pk_un (by decide), pk_us]
  · rw [pk_un (by decide), pk_un (by decide), pk_un (by decide), pk_us]
  · rw [pk_un (by decide), pk_un (by decide), pk_us]
  · rw [pk_un (by decide), pk_us]
  · rw [pk_us]
theorem bt_1 {i : Nat} (h : i < 32) : bt 1 i = decide (i = 0) := by
  have e : ∀ i : Fin 32, bt 1 i.1 = decide (i.1 = 0) := by decide +kernel
  exact e ⟨i, h⟩
theorem ini_K : OKS initSt initMoS 0 := by
  obtain ⟨i0, i1, i3, i12, i13⟩ := ini_0
  have p0 : rP initMoS 0 := ⟨by decide, i0⟩
  have pb : ∀ i, pB initMoS i = decide (i = 0) := fun i => by
    rw [Bool.eq_iff_iff, pB_iff, decide_eq_true_iff]
    exact ⟨ini_P, fun z => z ▸ p0⟩
  have z : ∀ j, 3 < j → j < 312 → initMoS j = 0 := fun j a b => ini0 (by omega) (by omega) (by omega) (by omega) (by omega)
  refine ⟨⟨i0, fun v hv => ?_, fun v p hv => absurd (ini_P hv) (by omega), fun v => v, fun v p hv => absurd (ini_P hv) (by omega)⟩, ⟨fun v p hv => absurd (ini_P hv) (by omega), fun v hv => ?_, fun w w' hw hw' _ => (ini_P hw.1).trans (ini_P hw'.1).symm, ⟨Or.inr (Or.inl i12), 6, by decide, by decide, i13⟩, i1⟩, ⟨fun i hi => ?_, fun i hi => ?_, fun i hi => ?_, ⟨rfl, rfl⟩, fun v p hv => absurd (ini_P hv) (by omega), fun v hv => ?_, fun j a b => ?_⟩, fun v hv => ?_⟩
  · by_cases c : v = 0
    · subst c; exact Or.inr i0
    · exact Or.inl (ini0 (by omega) (by omega) (by omega) (by omega) (by omega))
  · have := ini_P hv
    subst this
    exact ⟨0, ⟨p0, i3⟩, rfl⟩
  · show bt 1 i = _
    rw [pb, bt_1 hi]
  · show bt 0 i = _
    rw [pb, bt_0]
    by_cases c : i = 0
    · subst c
      unfold rH
      simp
    · simp [c]
  · show bt 1 i = _
    unfold tB
    rw [pb, bt_1 hi]
    by_cases c : i = 0
    · subst c
      rw [show 13 * 0 + 3 = 3 from rfl, i3]
      rfl
    · simp [c]
  · have := ini_P hv
    subst this
    exact ⟨(z 4 (by decide) (by decide)).symm, fun c hc => (z _ (by omega) (by omega)).symm⟩
  · rcases (show j = 7 ∨ j = 8 ∨ j = 9 ∨ j = 10 ∨ j = 11 ∨ j = 12 by omega) with rfl | rfl | rfl | rfl | rfl | rfl
    · exact i12.symm
    · exact i13.symm
    · exact (ini0 (by decide) (by decide) (by decide) (by decide) (by decide)).symm
    · exact (ini0 (by decide) (by decide) (by decide) (by decide) (by decide)).symm
    · exact (ini0 (by decide) (by decide) (by decide) (by decide) (by decide)).symm
    · exact (ini0 (by decide) (by decide) (by decide) (by decide) (by decide)).symm
  · have := ini_P hv
    subst this
    exact ⟨0, by decide, z 4 (by decide) (by decide)⟩
