/-! PURE PART. the class's acts, in the row's words -/
section TRY
variable {N : CS} {s : Nat → Int32} {B : Nat}
/-- a version that wasn't there stands at v -/
def BR (s s' : Nat → Int32) (v : Nat) : Prop := (∀ j, j < 318 → (j < 13 * v ∨ 13 * v + 13 ≤ j) → s' j = s j) ∧ s' (13 * v) = 1 ∧ s' (13 * v + 4) = 0
def bornR (s : Nat → Int32) (v u : Nat) (f : Nat → Int32) : Nat → Int32 := fun j => if 13 * v ≤ j ∧ j < 13 * v + 13 then (if j = 13 * v then 1 else if j = 13 * v + 1 then nI u else if j = 13 * v + 2 then 1 else if j = 13 * v + 3 then 0 else if j = 13 * v + 4 then 0 else f (j - (13 * v + 5))) else s j
theorem bornR_br (s : Nat → Int32) (v u : Nat) (f : Nat → Int32) : BR s (bornR s v u f) v := by
  refine ⟨fun j _ hj => ?_, ?_, ?_⟩
  · unfold bornR
    rw [if_neg (by omega)]
  · unfold bornR
    rw [if_pos (by omega), if_pos rfl]
  · unfold bornR
    rw [if_pos (by omega), if_neg (by omega), if_neg (by omega), if_neg (by omega), if_neg (by omega), if_pos rfl]
theorem born_n (h : OKB N s B) {u v : Nat} {Y : CS} (hu : rP s u) (v24 : v < 24) (nv : ¬ rP s v) (b1 : Y.1 = N.1) (b2 : ∀ j, j ≠ 6 → Y.2 j = N.2 j) (b3 : ∀ j, (j < 8 * v ∨ 8 * v + 8 ≤ j) → Y.2 6 j = N.2 6 j) : ∃ s', OKB (f_X5_hang Y (nI v) (nI u)) s' B ∧ BR s s' v := by
  refine ⟨bornR s v u (fun c => Y.2 6 (8 * v + c)), ?_, bornR_br _ _ _ _⟩
  refine h.born v24 nv hu (fun i hi hi2 => (bornR_br s v u _).1 i hi hi2) (bornR_br s v u _).2.1 ?_ ?_ ?_ (bornR_br s v u _).2.2 b1 b2 (fun w e hw hwv he => b3 _ (by omega)) (fun e he => ?_)
  · unfold bornR
    rw [if_pos (by omega), if_neg (by omega), if_pos rfl]
  · unfold bornR
    rw [if_pos (by omega), if_neg (by omega), if_neg (by omega), if_pos rfl]
  · unfold bornR
    rw [if_pos (by omega), if_neg (by omega), if_neg (by omega), if_neg (by omega), if_pos rfl]
  · unfold bornR
    rw [if_pos (by omega), if_neg (by omega), if_neg (by omega), if_neg (by omega), if_neg (by omega), if_neg (by omega), show 13 * v + (5 + e) - (13 * v + 5) = e by omega]
theorem free_c (h : OKB N s B) : (∃ v, v < 24 ∧ ¬ rP s v ∧ f_X5_lowestFree N = nI v) ∨ ∀ v, v < 24 → rP s v := by
  have R := h.2.2.1
  have key : ∀ (m i : Nat), i ≤ 24 → i + m = 25 → (∀ v, v < i → rP s v) → (∃ v, v < 24 ∧ ¬ rP s v ∧ l_X5_lowestFree_2 N m i = nI v) ∨ ∀ v, v < 24 → rP s v := by
    intro m
    induction m with
    | zero => intro i h1 h2; omega
    | succ m ih =>
      intro i h1 h2 h3
      rw [l_X5_lowestFree_2]
      by_cases q : i < 24
      · rw [if_pos q, has_n R q]
        by_cases p : pB s i = true
        · rw [if_pos p]
          refine ih (i + 1) (by omega) (by omega) (fun v hv => ?_)
          by_cases c : v = i
          · rw [c]; exact pB_iff.mp p
          · exact h3 v (by omega)
        · rw [if_neg p]
          exact Or.inl ⟨i, q, fun z => p (pB_iff.mpr z), rfl⟩
      · exact Or.inr (fun v hv => h3 v (by omega))
  exact key 25 0 (by decide) (by decide) (fun v hv => absurd hv (Nat.not_lt_zero _))
theorem full_c (h : ∀ v, v < 24 → rP s v) : cntB (pB s) 24 = 24 := by
  have : cntB (pB s) 24 = cntB (fun _ => true) 24 := cntB_congr (fun i hi => pB_iff.mpr (h i hi))
  rw [this]
  decide
theorem copy_ex (N : CS) {a b : Nat} (ha : a < 24) (hb : b < 24) (hab : a ≠ b) (x : Int32) : ∃ Y, f_X5_copyCells N (nI a) (nI b) x = Y ∧ Y.1 = N.1 ∧ (∀ j, j ≠ 6 → Y.2 j = N.2 j) ∧ ∀ j, (j < 8 * b ∨ 8 * b + 8 ≤ j) → Y.2 6 j = N.2 6 j :=
  ⟨l_X5_copyCells_3 (nI a) (nI b) x 9 N 0, rfl, (copy_n ha hb hab x 9 0 N (by decide) (by decide)).1, (copy_n ha hb hab x 9 0 N (by decide) (by decide)).2.1, (copy_n ha hb hab x 9 0 N (by decide) (by decide)).2.2.1⟩
theorem t_make (h : OKB N s B) (hr : cntB (pB s) 24 ≤ 23) {u c j : Nat} (hu : rP s u) (hc : c < 8) (hj : j ≤ 9) (M : CS) : ∃ v N' s', v < 24 ∧ ¬ rP s v ∧ f_X6_tryMake M N (nI u) (nI c) (nI j) = (nI v, N') ∧ OKB N' s' B ∧ BR s s' v := by
  have R := h.2.2.1
  rcases free_c h with ⟨v, v24, nv, f1⟩ | f
  · have uv : u ≠ v := fun z => nv (z ▸ hu)
    have g1 : ¬ nI v = 24 := fun z => by
      have := (nI_eq (b := 24) (by omega) (by decide)).mp z
      omega
    have ic : f_X6_isCell (nI c) = true := by
      unfold f_X6_isCell
      rw [if_neg (nI_pos (by omega)), if_pos (show nI c < 8 from nI_lt (show c < 8 by omega) (by decide))]
    obtain ⟨Y, eY, b1, b2, b3⟩ := copy_ex N hu.1 v24 uv 255
    obtain ⟨s', H, br⟩ := born_n h (Y := setF Y 6 (upd (Y.2 6) (8 * v + c) (nI j))) hu v24 nv b1 (fun i hi => (setF_n _ _ hi).trans (b2 i hi)) (fun i hi => by rw [setF_s, pk_un (by omega)]; exact b3 i (by omega))
    refine ⟨v, _, s', v24, nv, ?_, H, br⟩
    unfold f_X6_tryMake
    rw [has_P R hu, if_pos rfl, ic, if_pos rfl, if_neg (nI_pos (show j < 2 ^ 31 by omega)), if_neg (show ¬ 9 < nI j from nI_nlt (show j ≤ 9 by omega) (by decide)), f1, if_neg g1]
    simp only [bind1]
    rw [eY, pute _ v24 hc]
  · have := full_c f
    omega
theorem t_mix (h : OKB N s B) (hr : cntB (pB s) 24 ≤ 23) {u o k : Nat} (hu : rP s u) (ho : rP s o) (hk1 : 1 ≤ k) (hk : k ≤ 255) (M : CS) : ∃ v N' s', v < 24 ∧ ¬ rP s v ∧ f_X6_tryMix M N (nI u) (nI o) (nI k) = (nI v, N') ∧ OKB N' s' B ∧ BR s s' v := by
  have R := h.2.2.1
  rcases free_c h with ⟨v, v24, nv, f1⟩ | f
  · have uv : u ≠ v := fun z => nv (z ▸ hu)
    have ov : o ≠ v := fun z => nv (z ▸ ho)
    have g1 : ¬ nI v = 24 := fun z => by
      have := (nI_eq (b := 24) (by omega) (by decide)).mp z
      omega
    obtain ⟨Y, eY, b1, b2, b3⟩ := copy_ex N hu.1 v24 uv 255
    obtain ⟨Y2, eY2, d1, d2, d3⟩ := copy_ex Y ho.1 v24 ov (nI k)
    obtain ⟨s', H, br⟩ := born_n h (Y := Y2) hu v24 nv (d1.trans b1) (fun i hi => (d2 i hi).trans (b2 i hi)) (fun i hi => (d3 i (by omega)).trans (b3 i (by omega)))
    refine ⟨v, _, s', v24, nv, ?_, H, br⟩
    unfold f_X6_tryMix
    rw [has_P R hu, if_pos rfl, has_P R ho, if_pos rfl, if_neg (show ¬ nI k < 1 from nI_nlt (show 1 ≤ k by omega) (by omega)), if_neg (show ¬ 255 < nI k from nI_nlt (show k ≤ 255 by omega) (by decide)), f1, if_neg g1]
    simp only [bind1]
    rw [eY, eY2]
  · have := full_c f
    omega
/-- a version that is gone -/
def GN (s s' : Nat → Int32) (v : Nat) : Prop := (∀ k, k < 13 → s' (13 * v + k) = 0) ∧ ∀ j, j < 318 → (j < 13 * v ∨ 13 * v + 13 ≤ j) → j ≠ 13 * rU s v + 3 → s' j = s j
def goneR (s : Nat → Int32) (v : Nat) : Nat → Int32 := fun j => if 13 * v ≤ j ∧ j < 13 * v + 13 then 0 else if j = 13 * rU s v + 3 ∧ (tB s v && rH s v) = true then 1 else s j
theorem goneR_n {s : Nat → Int32} {v : Nat} : GN s (goneR s v) v := by
  refine ⟨fun k hk => ?_, fun j _ hj h3 => ?_⟩
  · unfold goneR
    rw [if_pos (by omega)]
  · unfold goneR
    rw [if_neg (by omega), if_neg (fun z => h3 z.1)]
theorem t_rem (h : OKB N s B) {v : Nat} (hv : rP s v) (v0 : 0 < v) (leaf : ∀ w, rP s w → 0 < w → rU s w ≠ v) : OKB (f_X5_drop (remN N (nI v)) (nI v)) (goneR s v) B := by
  have R := h.2.2.1
  have W := h.1
  have v24 := hv.1
  have hu := (W.2.2.1 v v0 hv).2
  have u24 := hu.1
  have uv : rU s v ≠ v := by
    obtain ⟨r, hr⟩ := W.2.2.2
    have := hr v v0 hv
    intro q
    rw [q] at this
    omega
  have tr : (tB s v && rH s v) = true ↔ (rR s v ∧ rH s v = true) := by rw [Bool.and_eq_true, tB_iff]
  have key : ∀ N1 : CS, (∀ j, j ≠ 2 → N1.1 j = N.1 j) → N1.2 = N.2 → (∀ i, i < 32 → (bt (N1.1 2) i = true ↔ (rR s i ∨ ((rR s v ∧ rH s v = true) ∧ i = rU s v)))) → OKB (f_X5_drop N1 (nI v)) (goneR s v) B := by
    intro N1 n1 n2 n3
    refine h.removed hv v0 leaf goneR_n.1 goneR_n.2 ⟨fun f => ?_, fun f => ?_⟩ n1 n2 n3
    · unfold goneR
      rw [if_neg (by omega), if_pos ⟨rfl, tr.mpr f⟩]
    · unfold goneR
      rw [if_neg (by omega), if_neg (fun z => f (tr.mp z.2))]
  unfold remN
  rw [isroot_n R v24, kept_n R hv]
  by_cases a : tB s v = true
  · rw [if_pos a]
    by_cases g : rH s v = true
    · rw [if_pos g, src_s R hv v0]
      have f : rR s v ∧ rH s v = true := ⟨tB_iff.mp a, g⟩
      refine key _ (fun j hj => setI_n N _ hj) rfl (fun i hi => ?_)
      show bt (N.1 2 ||| f_X4_of (nI (rU s v))) i = true ↔ _
      rw [bor_i u24 hi, t_i R hi]
      exact ⟨fun z => z.elim Or.inl (fun k => Or.inr ⟨f, k⟩), fun z => z.elim Or.inl (fun k => Or.inr k.2)⟩
    · rw [if_neg g]
      refine key N (fun _ _ => rfl) rfl (fun i hi => ?_)
      rw [t_i R hi]
      exact ⟨Or.inl, fun z => z.elim id (fun k => absurd k.1.2 g)⟩
  · rw [if_neg a]
    refine key N (fun _ _ => rfl) rfl (fun i hi => ?_)
    rw [t_i R hi]
    exact ⟨Or.inl, fun z => z.elim id (fun k => absurd (tB_iff.mpr k.1.1) a)⟩
theorem t_root (h : OKB N s B) {v w : Nat} (hv : rP s v) (a : RO s v w) (M E : CS) : (w = v → f_X6_tryRoot M N E (nI v) = (-5, N, E)) ∧ (w ≠ v → ∃ N' E', f_X6_tryRoot M N E (nI v) = (nI (yD s w v), N', E') ∧ OKB N' (mv s w v) B) := by
  have R := h.2.2.1
  have hE := spread_n h.1 R hv E
  unfold f_X6_tryRoot
  rw [has_P R hv, if_pos rfl, isroot_n R hv.1]
  constructor
  · intro c
    rw [if_pos (tB_iff.mpr (c ▸ a.1))]
  · intro c
    have nr : ¬ tB s v = true := fun z => c (h.2.1.2.2.1 w v a.1 (tB_iff.mp z) a.2)
    rw [if_neg nr]
    simp only [bind1]
    rw [root_c h.toS a hE, (steps_n hE ⟨a.1.1, a.2⟩).1]
    exact ⟨_, _, rfl, h.moved a.1 hv a.2⟩
theorem t_join (h : OKB N s B) {v w : Nat} (hv : rP s v) (v0 : 0 < v) (a : RO s v w) (M E : CS) : (rH s v = true → f_X6_tryJoin M N E (nI v) = (-5, N, E)) ∧ (¬ rH s v = true → ∃ N' E', f_X6_tryJoin M N E (nI v) = (nI (cntB (tB (jn s w v)) 24), N', E') ∧ OKB N' (jn s w v) B) := by
  have R := h.2.2.1
  have v24 := hv.1
  have hE := spread_n h.1 R hv E
  unfold f_X6_tryJoin
  rw [has_P R hv, if_pos rfl, if_neg (nI_ne0 v0 (by omega)), kept_n R hv]
  constructor
  · intro g
    rw [if_pos g]
  · intro g
    rw [if_neg g]
    simp only [bind1]
    rw [root_c h.toS a hE]
    have H := h.joined v0 g a.1 hv a.2
    refine ⟨_, f_X2_spread E N (nI v), ?_, H⟩
    rw [trees_c H.2.2.1]
/-- the root that a cut gives: the version, or its source -/
theorem t_cut (h : OKB N s B) {v : Nat} (hv : rP s v) (v0 : 0 < v) (g : rH s v = true) (M E : CS) : ∃ y E', (y = v ∨ y = rU s v) ∧ ¬ rR s y ∧ rP s y ∧ f_X6_giveRoot M (f_X5_cutDifference N (nI v)) E (nI v) (f_X5_sourceOf (f_X5_cutDifference N (nI v)) (nI v)) = (f_X5_addRoot (f_X5_cutDifference N (nI v)) (nI y), E') ∧ OKB (f_X5_addRoot (f_X5_cutDifference N (nI v)) (nI y)) (ct s v y) B := by
  have W := h.1
  have L := h.2.1
  have R := h.2.2.1
  have v24 := hv.1
  have hu := (W.2.2.1 v v0 hv).2
  have u24 := hu.1
  obtain ⟨w, w1, w2⟩ := RO.ex h.toS hv
  have w24 := w1.1.1
  have W' := W.s3 (ct0_e s v)
  have R' := RS.cutd W R hv
  have hv' : rP (ct0 s v) v := (rP_3 (ct0_e s v)).mpr hv
  have es : f_X5_sourceOf (f_X5_cutDifference N (nI v)) (nI v) = nI (rU s v) := src_s R hv v0
  have hE := spread_n W' R' hv' E
  obtain ⟨c1, c2⟩ := cut_roots W L hv g w1 w2
  have tu : rT s (rU s v) = rT s v := tp_up W.tr hv g
  unfold f_X6_giveRoot
  rw [es]
  simp only [bind1]
  generalize f_X2_spread E (f_X5_cutDifference N (nI v)) (nI v) = E' at *
  by_cases c : cm (rU s) (rH s) w v
  · obtain ⟨d1, d2⟩ := c1 c
    have nz : ¬ (E'.1 0 &&& (f_X5_cutDifference N (nI v)).1 2) = 0 := fun z => by
      have b1 : bt (E'.1 0) w = true := (hE.1 w (by omega)).mpr ⟨(rR_ct0.mpr w1).1, d1⟩
      have b2 : bt ((f_X5_cutDifference N (nI v)).1 2) w = true := (t_i R' (by omega)).mpr (rR_ct0.mpr w1)
      have b3 := bt_and (E'.1 0) ((f_X5_cutDifference N (nI v)).1 2) w
      rw [z, bt_0, b1, b2] at b3
      exact absurd b3 (by decide)
    refine ⟨rU s v, E', Or.inr rfl, fun z => ?_, hu, by rw [if_neg nz], OKB.cutted h hv g w1 w2 hu tu ⟨fun z => absurd z (cm_src W hv g), fun z => absurd c z⟩⟩
    have ew := L.2.2.1 _ w z w1 (tu.trans w2.symm)
    rw [← ew] at c
    exact cm_src W hv g c
  · have nz : (E'.1 0 &&& (f_X5_cutDifference N (nI v)).1 2) = 0 := bt_ext (fun i hi => by
      rw [bt_and, bt_0]
      cases b1 : bt (E'.1 0) i with
      | false => rfl
      | true =>
        cases b2 : bt ((f_X5_cutDifference N (nI v)).1 2) i with
        | false => rfl
        | true => exact absurd ((hE.1 i hi).mp b1).2 (c2 c i ((t_i R' hi).mp b2)))
    refine ⟨v, E', Or.inl rfl, fun z => ?_, hv, by rw [if_pos nz], OKB.cutted h hv g w1 w2 hv rfl ⟨fun _ => c, fun _ => cm_refl v⟩⟩
    have ew := L.2.2.1 _ w z w1 w2.symm
    rw [← ew] at c
    exact c (cm_refl v)
end TRY
