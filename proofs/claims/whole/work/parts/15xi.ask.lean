/-! PURE PART. ask -/
section ASKS
variable {N : CS} {s : Nat → Int32} {B : Nat}
def nt1 (s : Nat → Int32) (v : Nat) : Nat → Int32 := upd s (13 * v + 4) (s (13 * v + 4) + 1)
def nt2 (s : Nat → Int32) (v : Nat) : Nat → Int32 := upd (nt1 s v) 314 (nt1 s v 314 + 1)
def nt (s : Nat → Int32) (v : Nat) (c : Int32) : Nat → Int32 := upd (nt2 s v) 315 (nt2 s v 315 + c)
theorem nt_o (s : Nat → Int32) (v : Nat) (c : Int32) {j : Nat} (h1 : j ≠ 13 * v + 4) (h2 : j ≠ 314) (h3 : j ≠ 315) : nt s v c j = s j := by
  unfold nt nt2 nt1
  rw [pk_un h3, pk_un h2, pk_un h1]
theorem nt_4 (s : Nat → Int32) {v : Nat} (hv : v < 24) (c : Int32) : nt s v c (13 * v + 4) = s (13 * v + 4) + 1 := by
  unfold nt nt2 nt1
  rw [pk_un (by omega), pk_un (by omega), pk_us]
theorem nt_314 (s : Nat → Int32) {v : Nat} (hv : v < 24) (c : Int32) : nt s v c 314 = s 314 + 1 := by
  unfold nt nt2 nt1
  rw [pk_un (by omega), pk_us, pk_un (by omega)]
theorem nt_315 (s : Nat → Int32) {v : Nat} (hv : v < 24) (c : Int32) : nt s v c 315 = s 315 + c := by
  unfold nt nt2 nt1
  rw [pk_us, pk_un (by omega), pk_un (by omega)]
theorem nt_e (s : Nat → Int32) (v : Nat) (c : Int32) : same3 s (nt s v c) := fun j a _ _ d => nt_o s v c (by omega) (by omega) (by omega)
theorem note_g (R : RS N s) {v : Nat} (hv : v < 24) (c : Int32) : ∀ j, 7 ≤ j → j ≤ 12 → (f_X5_noteAsking N (nI v) c).1 j = nt s v c (305 + j) := by
  intro j a b
  have e := R.2.2.2.2.2.2 j a b
  by_cases j9 : j = 9
  · subst j9
    rw [nt_314 s hv, ← e]
    rfl
  · by_cases j10 : j = 10
    · subst j10
      rw [nt_315 s hv, ← e]
      rfl
    · rw [nt_o s v c (by omega) (by omega) (by omega), ← e]
      show upd (upd N.1 9 _) 10 _ j = _
      rw [pk_un j10, pk_un j9]
theorem m5_n (h : OKB N s B) {v : Nat} (hv : rP s v) {N' : CS} {s' : Nat → Int32} (a1 : N'.2 5 = f_X3_put 24 (N.2 5) (nI v) (f_X5_askedFor N (nI v) + 1)) (a2 : s' (13 * v + 4) = s (13 * v + 4) + 1) (a3 : ∀ u, u < 24 → u ≠ v → s' (13 * u + 4) = s (13 * u + 4)) : ∀ u, rP s u → N'.2 5 u = s' (13 * u + 4) ∧ ∃ k, k ≤ B + 1 ∧ s' (13 * u + 4) = nI k := by
  intro u hu
  rw [a1, put_n _ _ hv.1 (by decide), asked_n h.2.2.1 hv]
  by_cases c : u = v
  · subst c
    obtain ⟨k, k1, k2⟩ := h.2.2.2 u hu
    rw [pk_us, a2]
    exact ⟨rfl, k + 1, by omega, by rw [k2]; exact nI_1 k⟩
  · obtain ⟨k, k1, k2⟩ := h.2.2.2 u hu
    rw [pk_un c, a3 u hu.1 c]
    exact ⟨(h.2.2.1.2.2.2.2.2.1 u hu).1, k, by omega, k2⟩
theorem FL.same {s' : Nat → Int32} (W : SH s) (L : FL s) (e : same3 s s') (e2 : ∀ v, rP s v → s' (13 * v + 2) = s (13 * v + 2)) (e3 : ∀ v, rP s v → s' (13 * v + 3) = s (13 * v + 3)) (e312 : G3 s') : FL s' := by
  obtain ⟨r, hr, -⟩ := L.2.1 0 W.p0
  refine FL.move W L e e2 e312 hr hr.1 rfl (fun y hy => ?_)
  rw [e3 y hy]
  by_cases c : y = r
  · subst c
    exact ⟨fun _ => Or.inl rfl, fun _ => hr.2⟩
  · exact ⟨fun z => Or.inr ⟨c, z⟩, fun z => z.elim (fun k => absurd k c) (fun k => k.2)⟩
theorem OKB.noted (h : OKB N s B) {v : Nat} (hv : rP s v) (c : Int32) : OKB (f_X5_noteAsking N (nI v) c) (nt s v c) (B + 1) := by
  have W := h.1
  have L := h.2.1
  have R := h.2.2.1
  have v24 := hv.1
  refine OKB.flags (N' := f_X5_noteAsking N (nI v) c) (B' := B + 1) h (nt_e s v c) (FL.same W L (nt_e s v c) (fun u hu => nt_o s v c (by omega) (by have := hu.1; omega) (by have := hu.1; omega)) (fun u hu => nt_o s v c (by omega) (by have := hu.1; omega) (by have := hu.1; omega)) (L.2.2.2.1.mod (nt_o s v c (by omega) (by decide) (by decide)) (nt_o s v c (by omega) (by decide) (by decide)))) rfl (fun i hi => ?_) (fun i hi => ?_) rfl rfl rfl (m5_n h hv rfl (nt_4 s v24 c) (fun u hu q => nt_o s v c (by omega) (by omega) (by omega))) (note_g R v24 c)
  · show bt (N.1 1) i = true ↔ _
    rw [k_i R hi]
    constructor
    · rintro ⟨p, q⟩
      have := p.1
      exact ⟨p, by unfold rH at *; rw [nt_o s v c (by omega) (by omega) (by omega)]; exact q⟩
    · rintro ⟨p, q⟩
      have := p.1
      exact ⟨p, by unfold rH at *; rw [nt_o s v c (by omega) (by omega) (by omega)] at q; exact q⟩
  · show bt (N.1 2) i = true ↔ _
    rw [t_i R hi]
    constructor
    · rintro ⟨p, q⟩
      have := p.1
      exact ⟨p, by rw [nt_o s v c (by omega) (by omega) (by omega)]; exact q⟩
    · rintro ⟨p, q⟩
      have := p.1
      exact ⟨p, by rw [nt_o s v c (by omega) (by omega) (by omega)] at q; exact q⟩
/-- the last step of a way, which is cut if the way is too long -/
theorem way_last (W : SH s) {w v : Nat} (hw : rP s w) (hv : rP s v) (e : rT s w = rT s v) (hD : 0 < yD s w v) : rP s (yP s w v (yD s w v - 1)) ∧ ((rH s v = true ∧ rU s v = yP s w v (yD s w v - 1) ∧ ¬ cm (rU s) (rH s) w v) ∨ (rH s (yP s w v (yD s w v - 1)) = true ∧ rU s (yP s w v (yD s w v - 1)) = v ∧ cm (rU s) (rH s) w (yP s w v (yD s w v - 1)) ∧ ¬ cm (rU s) (rH s) v (yP s w v (yD s w v - 1)) ∧ (0 < v → rU s v ≠ yP s w v (yD s w v - 1)))) := by
  have T := W.tr
  have hk : yD s w v - 1 < yD s w v := by omega
  obtain ⟨p1, p2⟩ := PP_P T hw hv e (k := yD s w v - 1) (Nat.le_of_lt hk)
  have e2 : PP (rU s) (rH s) w v (yD s w v - 1 + 1) = v := by
    rw [show yD s w v - 1 + 1 = yD s w v by omega]
    exact PP_end T hw hv e
  refine ⟨p1, ?_⟩
  rcases PP_step T hw hv e hk with ⟨c, a, b⟩ | ⟨c, a, g, b, d⟩
  · right
    rw [e2] at b
    have a1 : AA (rU s) (rH s) w v ≤ ht (rU s) (rH s) w := (AA_spec T hw hv e).1
    have el : yP s w v (yD s w v - 1) = itr (rU s) (yD s w v - 1) w := if_pos (Nat.le_of_lt a)
    have hl := (it_P T (yD s w v - 1) w hw (by omega)).2
    have gl : rH s (yP s w v (yD s w v - 1)) = true := hg_of T (by rw [el, hl]; omega)
    refine ⟨gl, b.symm, by rw [el]; exact cm_it T hw (by omega), c, fun v0 q => ?_⟩
    obtain ⟨r, hr⟩ := W.2.2.2
    have h1 := hr v v0 hv
    have h2 := hr _ (rH_pos gl).1 p1
    rw [q] at h1
    rw [show rU s (yP s w v (yD s w v - 1)) = v from b.symm] at h2
    omega
  · left
    rw [e2] at g b
    refine ⟨g, b, fun z => ?_⟩
    have h1 := (AA_cm T hv hw z).1
    have h2 : yD s w v = AA (rU s) (rH s) w v + AA (rU s) (rH s) v w := rfl
    have a : AA (rU s) (rH s) w v ≤ yD s w v - 1 := a
    omega
def qc0 (t : Nat → Int32) (x v : Nat) : Nat → Int32 := upd (upd t (13 * x + 2) 0) (13 * v + 3) 1
def qc (t : Nat → Int32) (x v : Nat) : Nat → Int32 := upd (qc0 t x v) 317 (qc0 t x v 317 + 1)
theorem qc_o (t : Nat → Int32) (x v : Nat) {j : Nat} (h1 : j ≠ 13 * x + 2) (h2 : j ≠ 13 * v + 3) (h3 : j ≠ 317) : qc t x v j = t j := by
  unfold qc qc0
  rw [pk_un h3, pk_un h2, pk_un h1]
theorem qc_2 (t : Nat → Int32) {x : Nat} (v : Nat) (hx : x < 24) : qc t x v (13 * x + 2) = 0 := by
  unfold qc qc0
  rw [pk_un (by omega), pk_un (by omega), pk_us]
theorem qc_3 (t : Nat → Int32) (x : Nat) {v : Nat} (hv : v < 24) : qc t x v (13 * v + 3) = 1 := by
  unfold qc qc0
  rw [pk_un (by omega), pk_us]
theorem qc_317 (t : Nat → Int32) {x v : Nat} (hx : x < 24) (hv : v < 24) : qc t x v 317 = t 317 + 1 := by
  unfold qc qc0
  rw [pk_us, pk_un (by omega), pk_un (by omega)]
theorem OKB.askcut (h : OKB N s B) {x v w : Nat} (hv : rP s v) (c : Int32) (hx : rP s x) (gx : rH s x = true) (hw : rR s w) (hwx : rT s w = rT s x) (hyx : rT s v = rT s x) (hc : cm (rU s) (rH s) v x ↔ ¬ cm (rU s) (rH s) w x) : OKB (setI (f_X5_addRoot (f_X5_cutDifference (f_X5_noteAsking N (nI v) c) (nI x)) (nI v)) 12 ((f_X5_addRoot (f_X5_cutDifference (f_X5_noteAsking N (nI v) c) (nI x)) (nI v)).1 12 + 1)) (qc (nt s v c) x v) (B + 1) := by
  have W := h.1
  have L := h.2.1
  have R := h.2.2.1
  have v24 := hv.1
  have x24 := hx.1
  have e : same3 s (qc (nt s v c) x v) := fun j a b c1 d => (qc_o _ x v (by omega) (by omega) (by omega)).trans (nt_o s v c (by omega) (by omega) (by omega))
  have e2 : ∀ u, rP s u → u ≠ x → qc (nt s v c) x v (13 * u + 2) = s (13 * u + 2) := fun u hu n => by
    have := hu.1
    rw [qc_o _ x v (by omega) (by omega) (by omega), nt_o s v c (by omega) (by omega) (by omega)]
  have e3 : ∀ u, rP s u → (qc (nt s v c) x v (13 * u + 3) = 1 ↔ (u = v ∨ s (13 * u + 3) = 1)) := fun u hu => by
    have := hu.1
    by_cases q : u = v
    · subst q
      exact ⟨fun _ => Or.inl rfl, fun _ => qc_3 _ x v24⟩
    · rw [qc_o _ x v (by omega) (by omega) (by omega), nt_o s v c (by omega) (by omega) (by omega)]
      exact ⟨Or.inr, fun z => z.elim (fun k => absurd k q) id⟩
  refine OKB.flags (N' := setI (f_X5_addRoot (f_X5_cutDifference (f_X5_noteAsking N (nI v) c) (nI x)) (nI v)) 12 ((f_X5_addRoot (f_X5_cutDifference (f_X5_noteAsking N (nI v) c) (nI x)) (nI v)).1 12 + 1)) (B' := B + 1) h e (FL.cut W L e hx gx e2 (qc_2 _ v x24) (L.2.2.2.1.mod ?_ ?_) hw hwx hv hyx hc e3) rfl (fun i hi => ?_) (fun i hi => ?_) rfl rfl rfl (m5_n h hv rfl ?_ (fun u hu q => ?_)) (fun j a b => ?_)
  · rw [qc_o _ x v (by omega) (by omega) (by omega), nt_o s v c (by omega) (by omega) (by omega)]
  · rw [qc_o _ x v (by omega) (by omega) (by omega), nt_o s v c (by omega) (by omega) (by omega)]
  · show bt (N.1 1 &&& (f_X4_of (nI x) ^^^ (-1))) i = true ↔ _
    rw [band_i x24 hi, k_i R hi]
    by_cases q : i = x
    · subst q
      refine ⟨fun z => absurd rfl z.2, fun z => ?_⟩
      have := (rH_pos z.2).2
      rw [qc_2 _ v x24] at this
      exact absurd this (by decide)
    · constructor
      · rintro ⟨⟨p, z⟩, -⟩
        exact ⟨p, by unfold rH at *; rw [e2 i p q]; exact z⟩
      · rintro ⟨p, z⟩
        exact ⟨⟨p, by unfold rH at *; rw [e2 i p q] at z; exact z⟩, q⟩
  · show bt (N.1 2 ||| f_X4_of (nI v)) i = true ↔ _
    rw [bor_i v24 hi, t_i R hi]
    constructor
    · rintro (z | z)
      · exact ⟨z.1, (e3 i z.1).mpr (Or.inr z.2)⟩
      · subst z
        exact ⟨hv, (e3 i hv).mpr (Or.inl rfl)⟩
    · rintro ⟨p, z⟩
      rcases (e3 i p).mp z with z | z
      · exact Or.inr z
      · exact Or.inl ⟨p, z⟩
  · rw [qc_o _ x v (by omega) (by omega) (by omega)]
    exact nt_4 s v24 c
  · rw [qc_o _ x v (by omega) (by omega) (by omega), nt_o s v c (by omega) (by omega) (by omega)]
  · have g := note_g R v24 c j a b
    by_cases j12 : j = 12
    · subst j12
      rw [show 305 + 12 = 317 from rfl, qc_317 _ x24 v24, ← g]
      rfl
    · rw [qc_o _ x v (by omega) (by omega) (by omega), ← g]
      show upd (upd (upd (f_X5_noteAsking N (nI v) c).1 1 _) 2 _) 12 _ j = _
      rw [pk_un j12, pk_un (by omega), pk_un (by omega)]
end ASKS
