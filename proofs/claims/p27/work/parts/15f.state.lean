/-! PURE PART. a state of the class and a row of the reference say the same -/
def pB (s : Nat → Int32) (i : Nat) : Bool := decide (i < 24) && decide (s (13 * i) = 1)
def tB (s : Nat → Int32) (i : Nat) : Bool := pB s i && decide (s (13 * i + 3) = 1)
theorem pB_iff {s : Nat → Int32} {i : Nat} : pB s i = true ↔ rP s i := by
  unfold pB rP
  simp
theorem tB_iff {s : Nat → Int32} {i : Nat} : tB s i = true ↔ rR s i := by
  unfold tB rR
  rw [Bool.and_eq_true, pB_iff, decide_eq_true_iff]
def RS (N : CS) (s : Nat → Int32) : Prop :=
  (∀ i, i < 32 → bt (N.1 0) i = pB s i) ∧ (∀ i, i < 32 → bt (N.1 1) i = (pB s i && rH s i)) ∧ (∀ i, i < 32 → bt (N.1 2) i = tB s i) ∧
  (N.2 3 0 = 0 ∧ N.2 4 0 = 0) ∧
  (∀ v, 0 < v → rP s v → N.2 3 v = nI (rU s v) ∧ ∀ j, j < 32 → bt (N.2 4 v) j = (decide (j < 8) && un s v (rU s v) j)) ∧
  (∀ v, rP s v → N.2 5 v = s (13 * v + 4) ∧ ∀ c, c < 8 → N.2 6 (8 * v + c) = s (13 * v + (5 + c))) ∧
  ∀ j, 7 ≤ j → j ≤ 12 → N.1 j = s (305 + j)
theorem at_n (f : Nat → Int32) {n v : Nat} (hv : v < n) (hn : n < 2 ^ 31) : f_X3_at n f (nI v) = f v := by
  unfold f_X3_at
  rw [if_neg (nI_pos (by omega)), if_pos (nI_lt hv hn), nI_clamp (by omega)]
theorem put_n (f : Nat → Int32) {n v : Nat} (x : Int32) (hv : v < n) (hn : n < 2 ^ 31) : f_X3_put n f (nI v) x = upd f v x := by
  unfold f_X3_put
  rw [if_neg (nI_pos (by omega)), if_pos (nI_lt hv hn), nI_clamp (by omega)]
  rfl
section ST
variable {N : CS} {s : Nat → Int32}
theorem has_n (R : RS N s) {v : Nat} (hv : v < 24) : f_X5_has N (nI v) = pB s v := by
  unfold f_X5_has
  rw [isIn_nI hv, R.1 v (by omega)]
theorem has_P (R : RS N s) {v : Nat} (hv : rP s v) : f_X5_has N (nI v) = true := by rw [has_n R hv.1]; exact pB_iff.mpr hv
theorem has_x {a : Int32} (h : a < 0 ∨ nI 24 ≤ a) : f_X5_has N a = false := by
  unfold f_X5_has
  rcases h with h | h
  · exact isIn_lo h
  · exact isIn_hi (fun q => by
      rw [Int32.lt_iff_toInt_lt] at q
      rw [Int32.le_iff_toInt_le, nI_toInt (by decide)] at h
      have : (24 : Int32).toInt = 24 := by decide
      omega)
theorem kept_n (R : RS N s) {v : Nat} (hv : rP s v) : f_X5_isKept N (nI v) = rH s v := by
  have := hv.1
  unfold f_X5_isKept
  rw [isIn_nI hv.1, R.2.1 v (by omega), pB_iff.mpr hv]
  rfl
theorem kept_b (R : RS N s) {v : Nat} (hv : v < 24) : f_X5_isKept N (nI v) = (pB s v && rH s v) := by
  unfold f_X5_isKept
  rw [isIn_nI hv, R.2.1 v (by omega)]
theorem isroot_n (R : RS N s) {v : Nat} (hv : v < 24) : f_X5_isRoot N (nI v) = tB s v := by
  unfold f_X5_isRoot
  rw [isIn_nI hv, R.2.2.1 v (by omega)]
theorem src_s (R : RS N s) {v : Nat} (hv : rP s v) (h : 0 < v) : f_X5_sourceOf N (nI v) = nI (rU s v) := by
  unfold f_X5_sourceOf
  rw [at_n _ hv.1 (by decide), (R.2.2.2.2.1 v h hv).1]
theorem src_0 (R : RS N s) : f_X5_sourceOf N (nI 0) = nI 0 := by
  unfold f_X5_sourceOf
  rw [at_n _ (by decide) (by decide), R.2.2.2.1.1]
  rfl
theorem asked_n (R : RS N s) {v : Nat} (hv : rP s v) : f_X5_askedFor N (nI v) = s (13 * v + 4) := by
  unfold f_X5_askedFor
  rw [at_n _ hv.1 (by decide), (R.2.2.2.2.2.1 v hv).1]
theorem num_n (R : RS N s) {v c : Nat} (hv : rP s v) (hc : c < 8) : f_X5_numberIn N (nI v) (nI c) = s (13 * v + (5 + c)) := by
  have := hv.1
  unfold f_X5_numberIn
  rw [show (8 : Int32) = nI 8 from rfl, pk_mul, nI_add, at_n _ (by omega) (by decide), show v * 8 + c = 8 * v + c by omega, (R.2.2.2.2.2.1 v hv).2 c hc]
theorem dif_n (R : RS N s) {v : Nat} (hv : rP s v) (h : 0 < v) : ∀ j, j < 32 → bt (f_X5_differenceOf N (nI v)) j = (decide (j < 8) && un s v (rU s v) j) := by
  intro j hj
  unfold f_X5_differenceOf
  rw [at_n _ hv.1 (by decide), (R.2.2.2.2.1 v h hv).2 j hj]
theorem mask_cnt {x : Int32} {p : Nat → Bool} (h : ∀ j, j < 32 → bt x j = (decide (j < 8) && p j)) : f_J6_bitCount_0f7a4 x = nI (cntB p 8) := by
  rw [bitCount_bt (fun i h1 h2 => by rw [h i h2]; simp; omega)]
  congr 1
  have e : cntB (bt x) 24 = cntB (bt x) 8 + cntB (fun i => bt x (8 + i)) 16 := cntB_add _ 8 16
  have e2 : cntB (fun i => bt x (8 + i)) 16 = cntB (fun _ => false) 16 := cntB_congr (fun i hi => by rw [h _ (by omega)]; simp; omega)
  have e3 : cntB (fun _ => false) 16 = 0 := by decide
  have e4 : cntB (bt x) 8 = cntB p 8 := cntB_congr (fun i hi => by rw [h _ (by omega)]; simp [hi])
  omega
theorem difc_n (R : RS N s) {v : Nat} (hv : rP s v) (h : 0 < v) : f_J6_bitCount_0f7a4 (f_X5_differenceOf N (nI v)) = nI (rW s v) := mask_cnt (dif_n R hv h)
theorem unl_n (R : RS N s) {v u : Nat} (hv : rP s v) (hu : rP s u) : ∀ j, j < 32 → bt (f_X5_unlikeCells N (nI v) (nI u)) j = (decide (j < 8) && un s v u j) := by
  have key : ∀ (n i : Nat) (x : Int32), i ≤ 8 → i + n = 9 → (∀ j, j < 32 → bt x j = (decide (j < i) && un s v u j)) → ∀ j, j < 32 → bt (l_X5_unlikeCells_5 N (nI v) (nI u) n x i) j = (decide (j < 8) && un s v u j) := by
    intro n
    induction n with
    | zero => intro i x h1 h2; omega
    | succ n ih =>
      intro i x h1 h2 hx
      rw [l_X5_unlikeCells_5]
      by_cases c : i < 8
      · rw [if_pos c, num_n R hv c, num_n R hu c]
        by_cases d : s (13 * v + (5 + i)) = s (13 * u + (5 + i))
        · have e : un s v u i = false := by unfold un; simp [d]
          rw [if_pos d]
          refine ih (i + 1) x (by omega) (by omega) (fun j hj => ?_)
          rw [hx j hj]
          by_cases q : j = i
          · subst q; simp [e]
          · have : (decide (j < i + 1)) = decide (j < i) := decide_eq_decide.mpr (by omega)
            rw [this]
        · have e : un s v u i = true := by unfold un; simp [d]
          rw [if_neg d]
          refine ih (i + 1) _ (by omega) (by omega) (fun j hj => ?_)
          rw [bt_or, bt_of (by omega) hj, hx j hj]
          by_cases q : j = i
          · subst q; simp [e]
          · have : (decide (j < i + 1)) = decide (j < i) := decide_eq_decide.mpr (by omega)
            rw [this]; simp [q]
      · have : i = 8 := by omega
        subst this
        rw [if_neg c]
        exact hx
  exact key 9 0 0 (by decide) (by decide) (fun j _ => by rw [bt_0]; simp)
end ST
