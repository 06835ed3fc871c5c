/-! THE LAYER: one bundle of what a body knows, one judgement over worlds (no heap in sight), one row an instruction. -/
def BIG : List Cond := lw_tbl.filter goodWord
theorem big_good {w : Cond} (h : w ∈ BIG) : goodWord w = true := (List.mem_filter.mp h).2
theorem big_tbl {w : Cond} (h : w ∈ BIG) : w ∈ lw_tbl := (List.mem_filter.mp h).1
theorem big_in {w : Cond} (h : w ∈ lw_tbl) (g : goodWord w = true) : w ∈ BIG := List.mem_filter.mpr ⟨h, g⟩
def wB (cy : Cond) : List Cond := cy :: BIG
theorem goodB {ws : List Cond} (h : ∀ w ∈ ws, w ∈ BIG) : GoodIn BIG ws := fun w hw => ⟨h w hw, good_of_word (big_good (h w hw))⟩
theorem gB {cz : Cond} (h5 : cz ∈ BIG) : GoodIn BIG (wB cz) := goodB (fun w hw => (List.mem_cons.mp hw).elim (fun e => e ▸ h5) id)
theorem gV {own C : String} {idx : Nat} {z : MethodName} {cz : Cond} (h1 : Cond.methodLink own idx z ∈ BIG) (h2 : Cond.instanceMethod z ∈ BIG) (h3 : Cond.selects C z z ∈ BIG) (h4 : Cond.initialized C ∈ BIG) (h5 : cz ∈ BIG) : GoodIn BIG (wsV own idx C z (wB cz)) := goodB (by
  intro w hw
  rcases List.mem_append.mp (show w ∈ ([.methodLink own idx z, .instanceMethod z, .selects C z z, .initialized C] : List Cond) ++ wB cz from hw) with h | h
  · simp only [List.mem_cons, List.not_mem_nil, or_false] at h
    rcases h with rfl | rfl | rfl | rfl <;> assumption
  · exact (List.mem_cons.mp h).elim (fun e => e ▸ h5) id)
theorem gS {own : String} {idx : Nat} {z : MethodName} {cz : Cond} (h1 : Cond.methodLink own idx z ∈ BIG) (h2 : Cond.static z ∈ BIG) (h4 : Cond.initialized z.cls ∈ BIG) (h5 : cz ∈ BIG) : GoodIn BIG (va_wsS own idx z (wB cz)) := goodB (by
  intro w hw
  rcases List.mem_append.mp (show w ∈ ([.methodLink own idx z, .static z, .initialized z.cls] : List Cond) ++ wB cz from hw) with h | h
  · simp only [List.mem_cons, List.not_mem_nil, or_false] at h
    rcases h with rfl | rfl | rfl <;> assumption
  · exact (List.mem_cons.mp h).elim (fun e => e ▸ h5) id)
/-! ghosts that hold for a whole run: where the classes' slots lie, the array classes, the texts' addresses -/
abbrev GT : Type := va_G × ClassId × ClassId × ClassId × Nat × Nat × (Nat → Int32)
def gI (g : GT) : ClassId := g.2.1
def gC (g : GT) : ClassId := g.2.2.1
def gQ (g : GT) : ClassId := g.2.2.2.1
/-- the script: where it lies, its length, its numbers -/
def gsB (g : GT) : Nat := g.2.2.2.2.1
def gsL (g : GT) : Nat := g.2.2.2.2.2.1
def gsX (g : GT) : Nat → Int32 := g.2.2.2.2.2.2
def gTys (g : GT) : List (ClassId × FieldType) := [(gI g, .int), (gC g, .char), (gQ g, .object "RootedDeltas$State")]
/-- what holds of the tables and of the cells that nobody writes -/
def GS (g : GT) (A : Nat → Prop) (U : State) (H : Heap) : Prop := va_K g.1 vwCl (gTys g) U ∧ va_AO "RootedDeltas$State" U ∧ va_X (gsB g) (gsL g) (gsX g) U H ∧ gsB g < H.size ∧ ¬ A (gsB g)
theorem va_X.lt {b L : Nat} {xs : Nat → Int32} {U : State} {H : Heap} (h : va_X b L xs U H) : b < H.size := by
  obtain ⟨scr, h1, -⟩ := h
  exact (Array.getElem?_eq_some_iff.mp h1).1
theorem GS.kept {g : GT} {A : Nat → Prop} {U : State} {H H1 : Heap} (h : GS g A U H) (hq : ∀ a : Nat, a < H.size → ¬ A a → H1[a]? = H[a]?) : GS g A U H1 := ⟨h.1, h.2.1, h.2.2.1.kept (hq _ h.2.2.2.1 h.2.2.2.2), (h.2.2.1.kept (hq _ h.2.2.2.1 h.2.2.2.2)).lt, h.2.2.2.2⟩
theorem GS.narrow {g : GT} {A B : Nat → Prop} {U : State} {H : Heap} (h : GS g A U H) (hAB : ∀ q, B q → A q) : GS g B U H := ⟨h.1, h.2.1, h.2.2.1, h.2.2.2.1, fun q => h.2.2.2.2 (hAB _ q)⟩
theorem GS.warm {g : GT} {A : Nat → Prop} {s U : State} {H : Heap} (hW : s.WarmedH U.vm) (h : GS g A s H) : GS g A U H := ⟨va_K.moved hW.alike h.1, va_AO.moved hW.alike h.2.1, va_X.moved hW.alike h.2.2.1, h.2.2.2⟩
theorem GS.same {g : GT} {A : Nat → Prop} {u U : State} {H : Heap} (hv : U.vm = u.vm) (h : GS g A u H) : GS g A U H := ⟨va_K.moved (by rw [hv]; exact Vm.Alike.refl u.vm) h.1, va_AO.moved (by rw [hv]; exact Vm.Alike.refl u.vm) h.2.1, va_X.moved (by rw [hv]; exact Vm.Alike.refl u.vm) h.2.2.1, h.2.2.2⟩
/-! locals by place -/
def lpairs : Nat → List (Option Value) → List (Nat × Value)
  | _, [] => []
  | i, none :: t => lpairs (i + 1) t
  | i, some v :: t => (i, v) :: lpairs (i + 1) t
theorem lpairs_mem : ∀ (L : List (Option Value)) (j i : Nat) (v : Value), (i, v) ∈ lpairs j L ↔ j ≤ i ∧ L[i - j]? = some (some v)
  | [], j, i, v => by simp [lpairs]
  | none :: t, j, i, v => by
    rw [lpairs, lpairs_mem t (j + 1) i v]
    constructor
    · rintro ⟨h1, h2⟩
      refine ⟨by omega, ?_⟩
      rw [show i - j = (i - (j + 1)) + 1 by omega]
      simpa using h2
    · rintro ⟨h1, h2⟩
      have h3 : i ≠ j := by
        rintro rfl
        simp at h2
      refine ⟨by omega, ?_⟩
      rw [show i - j = (i - (j + 1)) + 1 by omega] at h2
      simpa using h2
  | some w :: t, j, i, v => by
    rw [lpairs, List.mem_cons, lpairs_mem t (j + 1) i v]
    constructor
    · rintro (h | ⟨h1, h2⟩)
      · cases h
        simp
      · refine ⟨by omega, ?_⟩
        rw [show i - j = (i - (j + 1)) + 1 by omega]
        simpa using h2
    · rintro ⟨h1, h2⟩
      by_cases h3 : i = j
      · subst h3
        simp at h2
        exact Or.inl (by rw [h2])
      · right
        refine ⟨by omega, ?_⟩
        rw [show i - j = (i - (j + 1)) + 1 by omega] at h2
        simpa using h2
def lh (ls : Array Slot) (nL : Nat) (L : List (Option Value)) : Prop := L.length = nL ∧ (∀ v : Value, some v ∈ L → v.category = 1) ∧ lv_has ls nL (lpairs 0 L)
theorem lh_mem {L : List (Option Value)} {i : Nat} {v : Value} (hi : L[i]? = some (some v)) : (i, v) ∈ lpairs 0 L := (lpairs_mem L 0 i v).mpr ⟨Nat.zero_le i, by simpa using hi⟩
theorem lh_at {ls : Array Slot} {nL : Nat} {L : List (Option Value)} (h : lh ls nL L) {i : Nat} {v : Value} (hi : L[i]? = some (some v)) : ls[i]? = some (.val v) := h.2.2.2.2 (i, v) (lh_mem hi)
theorem lh_set {ls ls' : Array Slot} {nL : Nat} {L : List (Option Value)} (h : lh ls nL L) {i : Nat} {v : Value} (hc : v.category = 1) (h' : lv_has ls' nL ((i, v) :: (lpairs 0 L).filter (fun q => !(q.1 == i) && !(q.1 + 1 == i && q.2.category == 2)))) : lh ls' nL (L.set i (some v)) := by
  refine ⟨by rw [List.length_set]; exact h.1, fun w hw => ?_, h'.1, h'.2.1, fun q hq => ?_⟩
  · rcases List.mem_or_eq_of_mem_set hw with q | q
    · exact h.2.1 w q
    · cases q; exact hc
  · obtain ⟨j, w⟩ := q
    obtain ⟨-, hj⟩ := (lpairs_mem _ 0 j w).mp hq
    rw [Nat.sub_zero, List.getElem?_set] at hj
    refine h'.2.2 (j, w) ?_
    by_cases e : i = j
    · subst e
      rw [if_pos rfl] at hj
      split at hj
      · cases hj; exact List.mem_cons_self
      · cases hj
    · rw [if_neg e] at hj
      refine List.mem_cons_of_mem _ (List.mem_filter.mpr ⟨lh_mem hj, ?_⟩)
      have hc2 : w.category = 1 := h.2.1 w (List.mem_of_getElem? hj)
      have e2 : (j == i) = false := by simp; omega
      simp [e2, hc2]
theorem lh_entry (av : List Value) (n : Nat) (hc : ∀ v ∈ av, v.category = 1) (hn : av.length ≤ n) : lh ((lg_sl av ++ List.replicate (n - (lg_sl av).length) Slot.unset).toArray) n (av.map some ++ List.replicate (n - av.length) none) := by
  have hsl : ∀ (av : List Value), (∀ v ∈ av, v.category = 1) → (lg_sl av).length = av.length := by
    intro av
    induction av with
    | nil => intro _; rfl
    | cons v t ih =>
      intro h
      have h1 := h v List.mem_cons_self
      have h2 := ih (fun w hw => h w (List.mem_cons_of_mem _ hw))
      show (lg_sl (v :: t)).length = _
      unfold lg_sl at h2 ⊢
      rw [List.flatMap_cons, List.length_append, h2, if_neg (by omega)]
      simp; omega
  have hp : ∀ (av : List Value) (i : Nat), (∀ v ∈ av, v.category = 1) → ∀ q, q ∈ lpairs i (av.map some ++ List.replicate (n - av.length) none) → q ∈ lv_args i av := by
    intro av
    induction av with
    | nil =>
      intro i _ q hq
      obtain ⟨j, w⟩ := q
      obtain ⟨-, h⟩ := (lpairs_mem _ i j w).mp hq
      have := List.mem_of_getElem? h
      simp at this
    | cons v t ih =>
      intro i h q hq
      have h1 := h v List.mem_cons_self
      obtain ⟨j, w⟩ := q
      obtain ⟨h3, h4⟩ := (lpairs_mem _ i j w).mp hq
      rw [lv_args, if_neg (by omega)]
      by_cases e : j = i
      · subst e
        simp at h4
        rw [h4]
        exact List.mem_cons_self
      · refine List.mem_cons_of_mem _ (ih (i + 1) (fun w hw => h w (List.mem_cons_of_mem _ hw)) (j, w) ((lpairs_mem _ (i + 1) j w).mpr ⟨by omega, ?_⟩))
        rw [show j - i = (j - (i + 1)) + 1 by omega] at h4
        have hz : (t.map some ++ List.replicate (n - t.length) (none : Option Value))[j - (i + 1)]? = some (some w) := by
          have h5 : (t.map some ++ List.replicate (n - (t.length + 1)) (none : Option Value))[j - (i + 1)]? = some (some w) := by simpa using h4
          by_cases hl : j - (i + 1) < t.length
          · rw [List.getElem?_append_left (by simpa using hl)] at h5 ⊢
            exact h5
          · rw [List.getElem?_append_right (by simpa using hl)] at h5
            have := List.mem_of_getElem? h5
            simp at this
        exact hz
  have h0 := lv_entry av (n := n) (by rw [hsl av hc]; exact hn)
  refine ⟨by simp; omega, fun v hv => ?_, h0.1, h0.2.1, fun q hq => h0.2.2 q (hp av 0 hc q hq)⟩
  rcases List.mem_append.mp hv with h | h
  · obtain ⟨w, hw, e⟩ := List.mem_map.mp h
    cases e
    exact hc v hw
  · simp at h
/-! the bundle of a body: k; its parts by name -/
abbrev KT : Type := Program × Launch × Env × Room × State × MethodId × Array Value × List Frame × Method × Code × GT × (Nat → Prop) × (Heap → List Loc → Prop) × (State → Prop) × Nat
def kp (k : KT) : Program := k.1
def kl (k : KT) : Launch := k.2.1
def ke (k : KT) : Env := k.2.2.1
def kR (k : KT) : Room := k.2.2.2.1
def ks (k : KT) : State := k.2.2.2.2.1
def km (k : KT) : MethodId := k.2.2.2.2.2.1
def kar (k : KT) : Array Value := k.2.2.2.2.2.2.1
def kbe (k : KT) : List Frame := k.2.2.2.2.2.2.2.1
def kme (k : KT) : Method := k.2.2.2.2.2.2.2.2.1
def kc (k : KT) : Code := k.2.2.2.2.2.2.2.2.2.1
def kg (k : KT) : GT := k.2.2.2.2.2.2.2.2.2.2.1
def kA (k : KT) : Nat → Prop := k.2.2.2.2.2.2.2.2.2.2.2.1
def kH (k : KT) : Heap → List Loc → Prop := k.2.2.2.2.2.2.2.2.2.2.2.2.1
def kQ (k : KT) : State → Prop := k.2.2.2.2.2.2.2.2.2.2.2.2.2.1
def kn (k : KT) : Nat := k.2.2.2.2.2.2.2.2.2.2.2.2.2.2
/-- from any heap that holds the world w, with these locals and this stack, the body goes on at pc to its end -/
def X (k : KT) (cs sl : Nat) (w : va_W) (pc : Nat) (L : List (Option Value)) (st : List Value) : Prop :=
  ∀ (H : Heap) (locs : List Loc) (ls : Array Slot), va_P (kg k).1 vwCl w H → va_D (kA k) w → kH k H locs → lh ls (kn k) L → W (kp k) (kl k) (ke k) (kR k) (ks k) (km k) (kar k) (kbe k) (kme k) (kc k) H locs cs sl (kQ k) (F0 (km k) pc ls st)
def rmd (d mc ms : Nat) : Room := { frames := d, cells := mc, slots := ms, locals := 36 * d + 12 }
/-- what a body knows: its class, its bytes, what it answers, how deep it may call, what it may make, what is due at its end -/
def Ck (k : KT) (own : String) (cc : ByteArray) (ret : Option FieldType) (d mc ms : Nat) (post : Option Value → va_W → Prop) : Prop :=
  (kp k).tables.exec = Jvm.exec ∧ (kc k).code = cc ∧ (kme k).sig.returnType = ret ∧ (kc k).maxLocals = kn k ∧ (ks k).vm.findClass own = some (km k).cls ∧ (∀ w ∈ BIG, w.before (kar k) (ks k) = true) ∧ (kme k).locks = false ∧
  GS (kg k) (kA k) (ks k) (ks k).heap ∧ (∀ H locs, kH k H locs → (ks k).heap.size ≤ H.size ∧ ∀ q : Nat, q < (ks k).heap.size → ¬ kA k q → H[q]? = (ks k).heap[q]?) ∧ kR k = rmd d mc ms ∧
  ∃ (Qc : Array Value → State → Outcome → State → Prop) (free : Addr → Prop), kQ k = MQ (kbe k) Qc (kar k) (ks k) mc ms free ∧ (∀ H locs, kH k H locs → ∀ q ∈ locs, free q.base) ∧
    ∀ (H : Heap) (locs : List Loc) (v : Option Value) (w : va_W) (t : State), va_P (kg k).1 vwCl w H → va_D (kA k) w → kH k H locs → post v w → t.heap = H → (ks k).WarmedH t.vm → Qc (kar k) (ks k) (.returned v) t
/-- a body that may write its world -/
def Cw (k : KT) : Prop := kH k = va_S (kA k) (ks k).heap ∧ ∀ q : Nat, (ks k).heap.size ≤ q → kA k q
section RULES
variable {k : KT} {own : String} {cc : ByteArray} {ret : Option FieldType} {d mc ms : Nat} {post : Option Value → va_W → Prop} {cs sl : Nat} {w : va_W} {pc pc' : Nat} {L L' : List (Option Value)} {st : List Value}
theorem x_widen {cs' sl' : Nat} (h1 : cs ≤ cs') (h2 : sl ≤ sl') (kk : X k cs' sl' w pc L st) : X k cs sl w pc L st := fun H locs ls hP hD hS hl => W.widen h1 h2 (kk H locs ls hP hD hS hl)
/-- another value, the same one -/
theorem x_cv {x y : Int32} (e : x = y) (kk : X k cs sl w pc L (.int y :: st)) : X k cs sl w pc L (.int x :: st) := e ▸ kk
theorem x_topi {x : Int32} (kk : ∀ y : Int32, y = x → X k cs sl w pc L (.int y :: st)) : X k cs sl w pc L (.int x :: st) := kk x rfl
theorem x_perm (is : List Nat) {w' : va_W} (hn : va_nd is = true) (hs : is.map (fun i => w[i]?) = w'.map some) (kk : X k cs sl w' pc L st) : X k cs sl w pc L st := fun H locs ls hP hD hS hl => kk H locs ls (hP.sub is (by
  have e : ∀ (is : List Nat) (w' : va_W), is.map (fun i => w[i]?) = w'.map some → is.filterMap (fun i => w[i]?) = w' := by
    intro is
    induction is with
    | nil => intro w' h; cases w' with
      | nil => rfl
      | cons a t => simp at h
    | cons i t ih => intro w' h; cases w' with
      | nil => simp at h
      | cons a u =>
        rw [List.map_cons, List.map_cons] at h
        have h1 := List.cons.inj h
        rw [List.filterMap_cons, h1.1, ih u h1.2]
  exact e is w' hs)) (hD.sub is hn hs) hS hl
theorem x_loc {w' : va_W} (e : w = w') (kk : X k cs sl w' pc L st) : X k cs sl w pc L st := e ▸ kk
theorem x_loc2 (e : L = L') (kk : X k cs sl w pc L' st) : X k cs sl w pc L st := e ▸ kk

theorem x_iconst (C : Ck k own cc ret d mc ms post) {n : Int} {v : Int32} (hd : decode cc pc = .ok (.iconst n, 1)) (hp : pc + 1 = pc') (hv : Int32.ofInt n = v) (kk : X k cs sl w pc' L (.int v :: st)) : X k cs sl w pc L (st) := fun H locs ls hP hD hS hl => lv_iconst C.1 C.2.1 hd hv (hp ▸ kk H locs ls hP hD hS hl)
theorem x_bipush (C : Ck k own cc ret d mc ms post) {n : Int} {v : Int32} (hd : decode cc pc = .ok (.bipush n, 2)) (hp : pc + 2 = pc') (hv : (Int8.ofInt n).toInt32 = v) (kk : X k cs sl w pc' L (.int v :: st)) : X k cs sl w pc L (st) := fun H locs ls hP hD hS hl => lv_bipush C.1 C.2.1 hd hv (hp ▸ kk H locs ls hP hD hS hl)
theorem x_sipush (C : Ck k own cc ret d mc ms post) {n : Int} {v : Int32} (hd : decode cc pc = .ok (.sipush n, 3)) (hp : pc + 3 = pc') (hv : (Int16.ofInt n).toInt32 = v) (kk : X k cs sl w pc' L (.int v :: st)) : X k cs sl w pc L (st) := fun H locs ls hP hD hS hl => lv_sipush C.1 C.2.1 hd hv (hp ▸ kk H locs ls hP hD hS hl)
theorem x_null (C : Ck k own cc ret d mc ms post)  (hd : decode cc pc = .ok (.aconst_null, 1)) (hp : pc + 1 = pc')  (kk : X k cs sl w pc' L (.null :: st)) : X k cs sl w pc L (st) := fun H locs ls hP hD hS hl => lv_null C.1 C.2.1 hd (hp ▸ kk H locs ls hP hD hS hl)
theorem x_iload_n (C : Ck k own cc ret d mc ms post) {f : Fin 4} {i : Nat} {x : Int32} (hd : decode cc pc = .ok (.iload_n f, 1)) (hp : pc + 1 = pc') (hi : (f : Nat) = i) (hx : L[i]? = some (some (.int x))) (kk : X k cs sl w pc' L (.int x :: st)) : X k cs sl w pc L (st) := fun H locs ls hP hD hS hl => lv_iload_n C.1 C.2.1 hd hi (lh_at hl hx) (hp ▸ kk H locs ls hP hD hS hl)
theorem x_iload (C : Ck k own cc ret d mc ms post) {i : Nat} {x : Int32} (hd : decode cc pc = .ok (.iload i, 2)) (hp : pc + 2 = pc') (hx : L[i]? = some (some (.int x))) (kk : X k cs sl w pc' L (.int x :: st)) : X k cs sl w pc L (st) := fun H locs ls hP hD hS hl => lv_iload C.1 C.2.1 hd (lh_at hl hx) (hp ▸ kk H locs ls hP hD hS hl)
theorem x_aload_n (C : Ck k own cc ret d mc ms post) {f : Fin 4} {i : Nat} {x : Nat} (hd : decode cc pc = .ok (.aload_n f, 1)) (hp : pc + 1 = pc') (hi : (f : Nat) = i) (hx : L[i]? = some (some (.ref x))) (kk : X k cs sl w pc' L (.ref x :: st)) : X k cs sl w pc L (st) := fun H locs ls hP hD hS hl => lv_aload_n C.1 C.2.1 hd hi (lh_at hl hx) (hp ▸ kk H locs ls hP hD hS hl)
theorem x_aload (C : Ck k own cc ret d mc ms post) {i : Nat} {x : Nat} (hd : decode cc pc = .ok (.aload i, 2)) (hp : pc + 2 = pc') (hx : L[i]? = some (some (.ref x))) (kk : X k cs sl w pc' L (.ref x :: st)) : X k cs sl w pc L (st) := fun H locs ls hP hD hS hl => lv_aload C.1 C.2.1 hd (lh_at hl hx) (hp ▸ kk H locs ls hP hD hS hl)
theorem x_aload_nN (C : Ck k own cc ret d mc ms post) {f : Fin 4} {i : Nat} (hd : decode cc pc = .ok (.aload_n f, 1)) (hp : pc + 1 = pc') (hi : (f : Nat) = i) (hx : L[i]? = some (some .null)) (kk : X k cs sl w pc' L (.null :: st)) : X k cs sl w pc L (st) := fun H locs ls hP hD hS hl => lv_aload_nN C.1 C.2.1 hd hi (lh_at hl hx) (hp ▸ kk H locs ls hP hD hS hl)
theorem x_istore_n (C : Ck k own cc ret d mc ms post) {f : Fin 4} {i : Nat} {x : Int32} (hd : decode cc pc = .ok (.istore_n f, 1)) (hp : pc + 1 = pc') (hi : (f : Nat) = i) (hn : i < L.length) (hL : L.set i (some (.int x)) = L') (kk : X k cs sl w pc' L' st) : X k cs sl w pc L (.int x :: st) := fun H locs ls hP hD hS hl => lv_istore_n C.1 C.2.1 hd hi hl.2.2 (hl.1 ▸ hn) rfl (fun ls' h' => hp ▸ kk H locs ls' hP hD hS (hL ▸ lh_set hl rfl h'))
theorem x_istore (C : Ck k own cc ret d mc ms post) {i : Nat} {x : Int32} (hd : decode cc pc = .ok (.istore i, 2)) (hp : pc + 2 = pc')  (hn : i < L.length) (hL : L.set i (some (.int x)) = L') (kk : X k cs sl w pc' L' st) : X k cs sl w pc L (.int x :: st) := fun H locs ls hP hD hS hl => lv_istore C.1 C.2.1 hd hl.2.2 (hl.1 ▸ hn) rfl (fun ls' h' => hp ▸ kk H locs ls' hP hD hS (hL ▸ lh_set hl rfl h'))
theorem x_astore_n (C : Ck k own cc ret d mc ms post) {f : Fin 4} {i : Nat} {x : Nat} (hd : decode cc pc = .ok (.astore_n f, 1)) (hp : pc + 1 = pc') (hi : (f : Nat) = i) (hn : i < L.length) (hL : L.set i (some (.ref x)) = L') (kk : X k cs sl w pc' L' st) : X k cs sl w pc L (.ref x :: st) := fun H locs ls hP hD hS hl => lv_astore_n C.1 C.2.1 hd hi hl.2.2 (hl.1 ▸ hn) rfl (fun ls' h' => hp ▸ kk H locs ls' hP hD hS (hL ▸ lh_set hl rfl h'))
theorem x_astore (C : Ck k own cc ret d mc ms post) {i : Nat} {x : Nat} (hd : decode cc pc = .ok (.astore i, 2)) (hp : pc + 2 = pc')  (hn : i < L.length) (hL : L.set i (some (.ref x)) = L') (kk : X k cs sl w pc' L' st) : X k cs sl w pc L (.ref x :: st) := fun H locs ls hP hD hS hl => lv_astore C.1 C.2.1 hd hl.2.2 (hl.1 ▸ hn) rfl (fun ls' h' => hp ▸ kk H locs ls' hP hD hS (hL ▸ lh_set hl rfl h'))
theorem x_astore_nN (C : Ck k own cc ret d mc ms post) {f : Fin 4} {i : Nat} (hd : decode cc pc = .ok (.astore_n f, 1)) (hp : pc + 1 = pc') (hi : (f : Nat) = i) (hn : i < L.length) (hL : L.set i (some (.null)) = L') (kk : X k cs sl w pc' L' st) : X k cs sl w pc L (.null :: st) := fun H locs ls hP hD hS hl => lv_astore_nN C.1 C.2.1 hd hi hl.2.2 (hl.1 ▸ hn) rfl (fun ls' h' => hp ▸ kk H locs ls' hP hD hS (hL ▸ lh_set hl rfl h'))
theorem x_iinc (C : Ck k own cc ret d mc ms post) {i : Nat} {n : Int} {x v : Int32} (hd : decode cc pc = .ok (.iinc i n, 3)) (hp : pc + 3 = pc') (hx : L[i]? = some (some (.int x))) (hv : x + Int32.ofInt n = v) (hn : i < L.length) (hL : L.set i (some (.int v)) = L') (kk : X k cs sl w pc' L' st) : X k cs sl w pc L st := fun H locs ls hP hD hS hl => by
  obtain ⟨j, hj⟩ := List.getElem?_of_mem (lh_mem hx)
  exact lv_iinc C.1 C.2.1 hd hl.2.2 hj hv (hl.1 ▸ hn) rfl (fun ls' h' => hp ▸ kk H locs ls' hP hD hS (hL ▸ lh_set hl rfl h'))
theorem x_iadd (C : Ck k own cc ret d mc ms post) {x y v : Int32} (hd : decode cc pc = .ok (.iadd, 1)) (hp : pc + 1 = pc') (hv : x + y = v) (kk : X k cs sl w pc' L (.int v :: st)) : X k cs sl w pc L (.int y :: .int x :: st) := fun H locs ls hP hD hS hl => lv_iadd C.1 C.2.1 hd (by rw [hv]; exact hp ▸ kk H locs ls hP hD hS hl)
theorem x_isub (C : Ck k own cc ret d mc ms post) {x y v : Int32} (hd : decode cc pc = .ok (.isub, 1)) (hp : pc + 1 = pc') (hv : x - y = v) (kk : X k cs sl w pc' L (.int v :: st)) : X k cs sl w pc L (.int y :: .int x :: st) := fun H locs ls hP hD hS hl => lv_isub C.1 C.2.1 hd (by rw [hv]; exact hp ▸ kk H locs ls hP hD hS hl)
theorem x_imul (C : Ck k own cc ret d mc ms post) {x y v : Int32} (hd : decode cc pc = .ok (.imul, 1)) (hp : pc + 1 = pc') (hv : x * y = v) (kk : X k cs sl w pc' L (.int v :: st)) : X k cs sl w pc L (.int y :: .int x :: st) := fun H locs ls hP hD hS hl => lv_imul C.1 C.2.1 hd (by rw [hv]; exact hp ▸ kk H locs ls hP hD hS hl)
theorem x_iand (C : Ck k own cc ret d mc ms post) {x y v : Int32} (hd : decode cc pc = .ok (.iand, 1)) (hp : pc + 1 = pc') (hv : x &&& y = v) (kk : X k cs sl w pc' L (.int v :: st)) : X k cs sl w pc L (.int y :: .int x :: st) := fun H locs ls hP hD hS hl => lv_iand C.1 C.2.1 hd (by rw [hv]; exact hp ▸ kk H locs ls hP hD hS hl)
theorem x_ior (C : Ck k own cc ret d mc ms post) {x y v : Int32} (hd : decode cc pc = .ok (.ior, 1)) (hp : pc + 1 = pc') (hv : x ||| y = v) (kk : X k cs sl w pc' L (.int v :: st)) : X k cs sl w pc L (.int y :: .int x :: st) := fun H locs ls hP hD hS hl => lv_ior C.1 C.2.1 hd (by rw [hv]; exact hp ▸ kk H locs ls hP hD hS hl)
theorem x_ixor (C : Ck k own cc ret d mc ms post) {x y v : Int32} (hd : decode cc pc = .ok (.ixor, 1)) (hp : pc + 1 = pc') (hv : x ^^^ y = v) (kk : X k cs sl w pc' L (.int v :: st)) : X k cs sl w pc L (.int y :: .int x :: st) := fun H locs ls hP hD hS hl => lv_ixor C.1 C.2.1 hd (by rw [hv]; exact hp ▸ kk H locs ls hP hD hS hl)
theorem x_ishl (C : Ck k own cc ret d mc ms post) {x y v : Int32} (hd : decode cc pc = .ok (.ishl, 1)) (hp : pc + 1 = pc') (hv : x <<< (y &&& 31) = v) (kk : X k cs sl w pc' L (.int v :: st)) : X k cs sl w pc L (.int y :: .int x :: st) := fun H locs ls hP hD hS hl => lv_ishl C.1 C.2.1 hd (by rw [hv]; exact hp ▸ kk H locs ls hP hD hS hl)
theorem x_ishr (C : Ck k own cc ret d mc ms post) {x y v : Int32} (hd : decode cc pc = .ok (.ishr, 1)) (hp : pc + 1 = pc') (hv : x >>> (y &&& 31) = v) (kk : X k cs sl w pc' L (.int v :: st)) : X k cs sl w pc L (.int y :: .int x :: st) := fun H locs ls hP hD hS hl => lv_ishr C.1 C.2.1 hd (by rw [hv]; exact hp ▸ kk H locs ls hP hD hS hl)
theorem x_iushr (C : Ck k own cc ret d mc ms post) {x y v : Int32} (hd : decode cc pc = .ok (.iushr, 1)) (hp : pc + 1 = pc') (hv : (x.toUInt32 >>> (y.toUInt32 &&& Int32.toUInt32 31)).toInt32 = v) (kk : X k cs sl w pc' L (.int v :: st)) : X k cs sl w pc L (.int y :: .int x :: st) := fun H locs ls hP hD hS hl => lv_iushr C.1 C.2.1 hd hv (hp ▸ kk H locs ls hP hD hS hl)
theorem x_ineg (C : Ck k own cc ret d mc ms post) {x v : Int32} (hd : decode cc pc = .ok (.ineg, 1)) (hp : pc + 1 = pc') (hv : -x = v) (kk : X k cs sl w pc' L (.int v :: st)) : X k cs sl w pc L (.int x :: st) := fun H locs ls hP hD hS hl => lv_ineg C.1 C.2.1 hd (by rw [hv]; exact hp ▸ kk H locs ls hP hD hS hl)
theorem x_i2c (C : Ck k own cc ret d mc ms post) {x v : Int32} (hd : decode cc pc = .ok (.i2c, 1)) (hp : pc + 1 = pc') (hv : (x.toUInt32 % 65536).toInt32 = v) (kk : X k cs sl w pc' L (.int v :: st)) : X k cs sl w pc L (.int x :: st) := fun H locs ls hP hD hS hl => lv_i2c C.1 C.2.1 hd hv (hp ▸ kk H locs ls hP hD hS hl)
theorem x_dup (C : Ck k own cc ret d mc ms post) {v : Value} (hd : decode cc pc = .ok (.dup, 1)) (hp : pc + 1 = pc') (hc : v.category = 1) (kk : X k cs sl w pc' L (v :: v :: st)) : X k cs sl w pc L (v :: st) := fun H locs ls hP hD hS hl => lv_dup C.1 C.2.1 hd hc (hp ▸ kk H locs ls hP hD hS hl)
theorem x_dup2 (C : Ck k own cc ret d mc ms post) {v u : Value} (hd : decode cc pc = .ok (.dup2, 1)) (hp : pc + 1 = pc') (hc : v.category = 1) (hc2 : u.category = 1) (kk : X k cs sl w pc' L (v :: u :: v :: u :: st)) : X k cs sl w pc L (v :: u :: st) := fun H locs ls hP hD hS hl => lv_dup2_11 C.1 C.2.1 hd hc hc2 (hp ▸ kk H locs ls hP hD hS hl)
theorem x_goto (C : Ck k own cc ret d mc ms post) {off : Int} {tgt : Nat} (hd : decode cc pc = .ok (.goto off, 3)) (ht : (pc : Int) + off = (tgt : Int)) (kk : X k cs sl w tgt L st) : X k cs sl w pc L st := fun H locs ls hP hD hS hl => lv_goto C.1 C.2.1 hd ht (kk H locs ls hP hD hS hl)
theorem x_if_eq (C : Ck k own cc ret d mc ms post) {x : Int32} {off : Int} {tgt : Nat} (hd : decode cc pc = .ok (.ifCond .eq off, 3)) (ht : (pc : Int) + off = (tgt : Int)) (hp : pc + 3 = pc') (kt : (x = 0) → X k cs sl w tgt L st) (kf : ¬ (x = 0) → X k cs sl w pc' L st) : X k cs sl w pc L (.int x :: st) := fun H locs ls hP hD hS hl => lv_if_eq C.1 C.2.1 hd ht (fun h => kt (by simpa using h) H locs ls hP hD hS hl) (fun h => hp ▸ kf (by simpa using h) H locs ls hP hD hS hl)
theorem x_icmp_eq (C : Ck k own cc ret d mc ms post) {x y : Int32} {off : Int} {tgt : Nat} (hd : decode cc pc = .ok (.if_icmp .eq off, 3)) (ht : (pc : Int) + off = (tgt : Int)) (hp : pc + 3 = pc') (kt : (x = y) → X k cs sl w tgt L st) (kf : ¬ (x = y) → X k cs sl w pc' L st) : X k cs sl w pc L (.int y :: .int x :: st) := fun H locs ls hP hD hS hl => lv_icmp_eq C.1 C.2.1 hd ht (fun h => kt (by simpa using h) H locs ls hP hD hS hl) (fun h => hp ▸ kf (by simpa using h) H locs ls hP hD hS hl)
theorem x_if_ne (C : Ck k own cc ret d mc ms post) {x : Int32} {off : Int} {tgt : Nat} (hd : decode cc pc = .ok (.ifCond .ne off, 3)) (ht : (pc : Int) + off = (tgt : Int)) (hp : pc + 3 = pc') (kt : ¬ (x = 0) → X k cs sl w tgt L st) (kf : (x = 0) → X k cs sl w pc' L st) : X k cs sl w pc L (.int x :: st) := fun H locs ls hP hD hS hl => lv_if_ne C.1 C.2.1 hd ht (fun h => kt (by simpa using h) H locs ls hP hD hS hl) (fun h => hp ▸ kf (Classical.not_not.mp (by simpa using h)) H locs ls hP hD hS hl)
theorem x_icmp_ne (C : Ck k own cc ret d mc ms post) {x y : Int32} {off : Int} {tgt : Nat} (hd : decode cc pc = .ok (.if_icmp .ne off, 3)) (ht : (pc : Int) + off = (tgt : Int)) (hp : pc + 3 = pc') (kt : ¬ (x = y) → X k cs sl w tgt L st) (kf : (x = y) → X k cs sl w pc' L st) : X k cs sl w pc L (.int y :: .int x :: st) := fun H locs ls hP hD hS hl => lv_icmp_ne C.1 C.2.1 hd ht (fun h => kt (by simpa using h) H locs ls hP hD hS hl) (fun h => hp ▸ kf (Classical.not_not.mp (by simpa using h)) H locs ls hP hD hS hl)
theorem x_if_lt (C : Ck k own cc ret d mc ms post) {x : Int32} {off : Int} {tgt : Nat} (hd : decode cc pc = .ok (.ifCond .lt off, 3)) (ht : (pc : Int) + off = (tgt : Int)) (hp : pc + 3 = pc') (kt : (x < 0) → X k cs sl w tgt L st) (kf : ¬ (x < 0) → X k cs sl w pc' L st) : X k cs sl w pc L (.int x :: st) := fun H locs ls hP hD hS hl => lv_if_lt C.1 C.2.1 hd ht (fun h => kt (by simpa using h) H locs ls hP hD hS hl) (fun h => hp ▸ kf (by simpa using h) H locs ls hP hD hS hl)
theorem x_icmp_lt (C : Ck k own cc ret d mc ms post) {x y : Int32} {off : Int} {tgt : Nat} (hd : decode cc pc = .ok (.if_icmp .lt off, 3)) (ht : (pc : Int) + off = (tgt : Int)) (hp : pc + 3 = pc') (kt : (x < y) → X k cs sl w tgt L st) (kf : ¬ (x < y) → X k cs sl w pc' L st) : X k cs sl w pc L (.int y :: .int x :: st) := fun H locs ls hP hD hS hl => lv_icmp_lt C.1 C.2.1 hd ht (fun h => kt (by simpa using h) H locs ls hP hD hS hl) (fun h => hp ▸ kf (by simpa using h) H locs ls hP hD hS hl)
theorem x_if_ge (C : Ck k own cc ret d mc ms post) {x : Int32} {off : Int} {tgt : Nat} (hd : decode cc pc = .ok (.ifCond .ge off, 3)) (ht : (pc : Int) + off = (tgt : Int)) (hp : pc + 3 = pc') (kt : ¬ (x < 0) → X k cs sl w tgt L st) (kf : (x < 0) → X k cs sl w pc' L st) : X k cs sl w pc L (.int x :: st) := fun H locs ls hP hD hS hl => lv_if_ge C.1 C.2.1 hd ht (fun h => kt (Int32.not_lt.mpr (by simpa using h)) H locs ls hP hD hS hl) (fun h => hp ▸ kf (Int32.not_le.mp (by simpa using h)) H locs ls hP hD hS hl)
theorem x_icmp_ge (C : Ck k own cc ret d mc ms post) {x y : Int32} {off : Int} {tgt : Nat} (hd : decode cc pc = .ok (.if_icmp .ge off, 3)) (ht : (pc : Int) + off = (tgt : Int)) (hp : pc + 3 = pc') (kt : ¬ (x < y) → X k cs sl w tgt L st) (kf : (x < y) → X k cs sl w pc' L st) : X k cs sl w pc L (.int y :: .int x :: st) := fun H locs ls hP hD hS hl => lv_icmp_ge C.1 C.2.1 hd ht (fun h => kt (Int32.not_lt.mpr (by simpa using h)) H locs ls hP hD hS hl) (fun h => hp ▸ kf (Int32.not_le.mp (by simpa using h)) H locs ls hP hD hS hl)
theorem x_if_gt (C : Ck k own cc ret d mc ms post) {x : Int32} {off : Int} {tgt : Nat} (hd : decode cc pc = .ok (.ifCond .gt off, 3)) (ht : (pc : Int) + off = (tgt : Int)) (hp : pc + 3 = pc') (kt : (0 < x) → X k cs sl w tgt L st) (kf : ¬ (0 < x) → X k cs sl w pc' L st) : X k cs sl w pc L (.int x :: st) := fun H locs ls hP hD hS hl => lv_if_gt C.1 C.2.1 hd ht (fun h => kt (by simpa using h) H locs ls hP hD hS hl) (fun h => hp ▸ kf (by simpa using h) H locs ls hP hD hS hl)
theorem x_icmp_gt (C : Ck k own cc ret d mc ms post) {x y : Int32} {off : Int} {tgt : Nat} (hd : decode cc pc = .ok (.if_icmp .gt off, 3)) (ht : (pc : Int) + off = (tgt : Int)) (hp : pc + 3 = pc') (kt : (y < x) → X k cs sl w tgt L st) (kf : ¬ (y < x) → X k cs sl w pc' L st) : X k cs sl w pc L (.int y :: .int x :: st) := fun H locs ls hP hD hS hl => lv_icmp_gt C.1 C.2.1 hd ht (fun h => kt (by simpa using h) H locs ls hP hD hS hl) (fun h => hp ▸ kf (by simpa using h) H locs ls hP hD hS hl)
theorem x_if_le (C : Ck k own cc ret d mc ms post) {x : Int32} {off : Int} {tgt : Nat} (hd : decode cc pc = .ok (.ifCond .le off, 3)) (ht : (pc : Int) + off = (tgt : Int)) (hp : pc + 3 = pc') (kt : ¬ (0 < x) → X k cs sl w tgt L st) (kf : (0 < x) → X k cs sl w pc' L st) : X k cs sl w pc L (.int x :: st) := fun H locs ls hP hD hS hl => lv_if_le C.1 C.2.1 hd ht (fun h => kt (Int32.not_lt.mpr (by simpa using h)) H locs ls hP hD hS hl) (fun h => hp ▸ kf (Int32.not_le.mp (by simpa using h)) H locs ls hP hD hS hl)
theorem x_icmp_le (C : Ck k own cc ret d mc ms post) {x y : Int32} {off : Int} {tgt : Nat} (hd : decode cc pc = .ok (.if_icmp .le off, 3)) (ht : (pc : Int) + off = (tgt : Int)) (hp : pc + 3 = pc') (kt : ¬ (y < x) → X k cs sl w tgt L st) (kf : (y < x) → X k cs sl w pc' L st) : X k cs sl w pc L (.int y :: .int x :: st) := fun H locs ls hP hD hS hl => lv_icmp_le C.1 C.2.1 hd ht (fun h => kt (Int32.not_lt.mpr (by simpa using h)) H locs ls hP hD hS hl) (fun h => hp ▸ kf (Int32.not_le.mp (by simpa using h)) H locs ls hP hD hS hl)
theorem x_icmpN_eq (C : Ck k own cc ret d mc ms post) {off : Int} {tgt : Nat} (a b : Nat) (hd : decode cc pc = .ok (.if_icmp .eq off, 3)) (ht : (pc : Int) + off = (tgt : Int)) (hp : pc + 3 = pc') (ha : a < 2 ^ 31) (hb : b < 2 ^ 31) (kt : (a = b) → X k cs sl w tgt L st) (kf : ¬ (a = b) → X k cs sl w pc' L st) : X k cs sl w pc L (.int (nI b) :: .int (nI a) :: st) := x_icmp_eq C hd ht hp (fun h => kt ((nI_eq ha hb).mp h)) (fun h => kf (fun q => h ((nI_eq ha hb).mpr q)))
theorem x_ifN_eq (C : Ck k own cc ret d mc ms post) {off : Int} {tgt : Nat} (a : Nat) (hd : decode cc pc = .ok (.ifCond .eq off, 3)) (ht : (pc : Int) + off = (tgt : Int)) (hp : pc + 3 = pc') (ha : a < 2 ^ 31) (kt : (a = 0) → X k cs sl w tgt L st) (kf : ¬ (a = 0) → X k cs sl w pc' L st) : X k cs sl w pc L (.int (nI a) :: st) := x_if_eq C hd ht hp (fun h => kt ((nI_eq ha (show 0 < 2 ^ 31 by decide)).mp h)) (fun h => kf (fun q => h ((nI_eq ha (show 0 < 2 ^ 31 by decide)).mpr q)))
theorem x_icmpN_ne (C : Ck k own cc ret d mc ms post) {off : Int} {tgt : Nat} (a b : Nat) (hd : decode cc pc = .ok (.if_icmp .ne off, 3)) (ht : (pc : Int) + off = (tgt : Int)) (hp : pc + 3 = pc') (ha : a < 2 ^ 31) (hb : b < 2 ^ 31) (kt : ¬ (a = b) → X k cs sl w tgt L st) (kf : (a = b) → X k cs sl w pc' L st) : X k cs sl w pc L (.int (nI b) :: .int (nI a) :: st) := x_icmp_ne C hd ht hp (fun h => kt (fun q => h ((nI_eq ha hb).mpr q))) (fun h => kf ((nI_eq ha hb).mp h))
theorem x_ifN_ne (C : Ck k own cc ret d mc ms post) {off : Int} {tgt : Nat} (a : Nat) (hd : decode cc pc = .ok (.ifCond .ne off, 3)) (ht : (pc : Int) + off = (tgt : Int)) (hp : pc + 3 = pc') (ha : a < 2 ^ 31) (kt : ¬ (a = 0) → X k cs sl w tgt L st) (kf : (a = 0) → X k cs sl w pc' L st) : X k cs sl w pc L (.int (nI a) :: st) := x_if_ne C hd ht hp (fun h => kt (fun q => h ((nI_eq ha (show 0 < 2 ^ 31 by decide)).mpr q))) (fun h => kf ((nI_eq ha (show 0 < 2 ^ 31 by decide)).mp h))
theorem x_icmpN_lt (C : Ck k own cc ret d mc ms post) {off : Int} {tgt : Nat} (a b : Nat) (hd : decode cc pc = .ok (.if_icmp .lt off, 3)) (ht : (pc : Int) + off = (tgt : Int)) (hp : pc + 3 = pc') (ha : a < 2 ^ 31) (hb : b < 2 ^ 31) (kt : (a < b) → X k cs sl w tgt L st) (kf : ¬ (a < b) → X k cs sl w pc' L st) : X k cs sl w pc L (.int (nI b) :: .int (nI a) :: st) := x_icmp_lt C hd ht hp (fun h => kt ((nI_ltI ha hb).mp h)) (fun h => kf (fun q => h ((nI_ltI ha hb).mpr q)))
theorem x_ifN_lt (C : Ck k own cc ret d mc ms post) {off : Int} {tgt : Nat} (a : Nat) (hd : decode cc pc = .ok (.ifCond .lt off, 3)) (ht : (pc : Int) + off = (tgt : Int)) (hp : pc + 3 = pc') (ha : a < 2 ^ 31) (kt : (a < 0) → X k cs sl w tgt L st) (kf : ¬ (a < 0) → X k cs sl w pc' L st) : X k cs sl w pc L (.int (nI a) :: st) := x_if_lt C hd ht hp (fun h => kt ((nI_ltI ha (show 0 < 2 ^ 31 by decide)).mp h)) (fun h => kf (fun q => h ((nI_ltI ha (show 0 < 2 ^ 31 by decide)).mpr q)))
theorem x_icmpN_ge (C : Ck k own cc ret d mc ms post) {off : Int} {tgt : Nat} (a b : Nat) (hd : decode cc pc = .ok (.if_icmp .ge off, 3)) (ht : (pc : Int) + off = (tgt : Int)) (hp : pc + 3 = pc') (ha : a < 2 ^ 31) (hb : b < 2 ^ 31) (kt : ¬ (a < b) → X k cs sl w tgt L st) (kf : (a < b) → X k cs sl w pc' L st) : X k cs sl w pc L (.int (nI b) :: .int (nI a) :: st) := x_icmp_ge C hd ht hp (fun h => kt (fun q => h ((nI_ltI ha hb).mpr q))) (fun h => kf ((nI_ltI ha hb).mp h))
theorem x_ifN_ge (C : Ck k own cc ret d mc ms post) {off : Int} {tgt : Nat} (a : Nat) (hd : decode cc pc = .ok (.ifCond .ge off, 3)) (ht : (pc : Int) + off = (tgt : Int)) (hp : pc + 3 = pc') (ha : a < 2 ^ 31) (kt : ¬ (a < 0) → X k cs sl w tgt L st) (kf : (a < 0) → X k cs sl w pc' L st) : X k cs sl w pc L (.int (nI a) :: st) := x_if_ge C hd ht hp (fun h => kt (fun q => h ((nI_ltI ha (show 0 < 2 ^ 31 by decide)).mpr q))) (fun h => kf ((nI_ltI ha (show 0 < 2 ^ 31 by decide)).mp h))
theorem x_icmpN_gt (C : Ck k own cc ret d mc ms post) {off : Int} {tgt : Nat} (a b : Nat) (hd : decode cc pc = .ok (.if_icmp .gt off, 3)) (ht : (pc : Int) + off = (tgt : Int)) (hp : pc + 3 = pc') (ha : a < 2 ^ 31) (hb : b < 2 ^ 31) (kt : (b < a) → X k cs sl w tgt L st) (kf : ¬ (b < a) → X k cs sl w pc' L st) : X k cs sl w pc L (.int (nI b) :: .int (nI a) :: st) := x_icmp_gt C hd ht hp (fun h => kt ((nI_ltI hb ha).mp h)) (fun h => kf (fun q => h ((nI_ltI hb ha).mpr q)))
theorem x_ifN_gt (C : Ck k own cc ret d mc ms post) {off : Int} {tgt : Nat} (a : Nat) (hd : decode cc pc = .ok (.ifCond .gt off, 3)) (ht : (pc : Int) + off = (tgt : Int)) (hp : pc + 3 = pc') (ha : a < 2 ^ 31) (kt : (0 < a) → X k cs sl w tgt L st) (kf : ¬ (0 < a) → X k cs sl w pc' L st) : X k cs sl w pc L (.int (nI a) :: st) := x_if_gt C hd ht hp (fun h => kt ((nI_ltI (show 0 < 2 ^ 31 by decide) ha).mp h)) (fun h => kf (fun q => h ((nI_ltI (show 0 < 2 ^ 31 by decide) ha).mpr q)))
theorem x_icmpN_le (C : Ck k own cc ret d mc ms post) {off : Int} {tgt : Nat} (a b : Nat) (hd : decode cc pc = .ok (.if_icmp .le off, 3)) (ht : (pc : Int) + off = (tgt : Int)) (hp : pc + 3 = pc') (ha : a < 2 ^ 31) (hb : b < 2 ^ 31) (kt : ¬ (b < a) → X k cs sl w tgt L st) (kf : (b < a) → X k cs sl w pc' L st) : X k cs sl w pc L (.int (nI b) :: .int (nI a) :: st) := x_icmp_le C hd ht hp (fun h => kt (fun q => h ((nI_ltI hb ha).mpr q))) (fun h => kf ((nI_ltI hb ha).mp h))
theorem x_ifN_le (C : Ck k own cc ret d mc ms post) {off : Int} {tgt : Nat} (a : Nat) (hd : decode cc pc = .ok (.ifCond .le off, 3)) (ht : (pc : Int) + off = (tgt : Int)) (hp : pc + 3 = pc') (ha : a < 2 ^ 31) (kt : ¬ (0 < a) → X k cs sl w tgt L st) (kf : (0 < a) → X k cs sl w pc' L st) : X k cs sl w pc L (.int (nI a) :: st) := x_if_le C hd ht hp (fun h => kt (fun q => h ((nI_ltI (show 0 < 2 ^ 31 by decide) ha).mpr q))) (fun h => kf ((nI_ltI (show 0 < 2 ^ 31 by decide) ha).mp h))
/-- an answer of a boolean kind -/
def bI (b : Bool) : Int32 := if b then 1 else 0
theorem bI_0 {b : Bool} : bI b = 0 ↔ b = false := by cases b <;> decide
theorem bI_1 {b : Bool} : bI b = 1 ↔ b = true := by cases b <;> decide
theorem bI_n0 {b : Bool} : ¬ bI b = 0 ↔ b = true := by cases b <;> decide
theorem bI_nar (b : Bool) : narrow .boolean (.int (bI b)) = .int (bI b) := by cases b <;> rfl
theorem x_ifB_eq (C : Ck k own cc ret d mc ms post) {b : Bool} {off : Int} {tgt : Nat} (hd : decode cc pc = .ok (.ifCond .eq off, 3)) (ht : (pc : Int) + off = (tgt : Int)) (hp : pc + 3 = pc') (kt : ¬ (b = true) → X k cs sl w tgt L st) (kf : b = true → X k cs sl w pc' L st) : X k cs sl w pc L (.int (bI b) :: st) := x_if_eq C hd ht hp (fun h => kt (fun q => bI_n0.mpr q h)) (fun h => kf (bI_n0.mp h))
theorem x_ifB_ne (C : Ck k own cc ret d mc ms post) {b : Bool} {off : Int} {tgt : Nat} (hd : decode cc pc = .ok (.ifCond .ne off, 3)) (ht : (pc : Int) + off = (tgt : Int)) (hp : pc + 3 = pc') (kt : b = true → X k cs sl w tgt L st) (kf : ¬ (b = true) → X k cs sl w pc' L st) : X k cs sl w pc L (.int (bI b) :: st) := x_if_ne C hd ht hp (fun h => kt (bI_n0.mp h)) (fun h => kf (fun q => bI_n0.mpr q h))
theorem x_tabOut (C : Ck k own cc ret d mc ms post) {dflt lo hi : Int} {offs : Array Int} {len : Nat} {x : Int32} {tgt : Nat} (hd : decode cc pc = .ok (.tableswitch dflt lo hi offs, len)) (h : x.toInt < lo ∨ hi < x.toInt) (ht : (pc : Int) + dflt = (tgt : Int)) (kk : X k cs sl w tgt L st) : X k cs sl w pc L (.int x :: st) := fun H locs ls hP hD hS hl => lv_tableOut C.1 C.2.1 hd h ht (kk H locs ls hP hD hS hl)
theorem x_tabIn (C : Ck k own cc ret d mc ms post) {dflt lo hi : Int} {offs : Array Int} {len : Nat} {x : Int32} {off : Int} {tgt : Nat} (j : Int) (hd : decode cc pc = .ok (.tableswitch dflt lo hi offs, len)) (hx : x.toInt = j) (h1 : ¬ j < lo) (h2 : ¬ hi < j) (ho : offs[(j - lo).toNat]? = some off) (ht : (pc : Int) + off = (tgt : Int)) (kk : X k cs sl w tgt L st) : X k cs sl w pc L (.int x :: st) := fun H locs ls hP hD hS hl => lv_tableIn C.1 C.2.1 hd (by rw [hx]; exact h1) (by rw [hx]; exact h2) (by rw [hx]; exact ho) ht (kk H locs ls hP hD hS hl)
theorem x_lookup (C : Ck k own cc ret d mc ms post) {dflt : Int} {ps : Array (Int × Int)} {len : Nat} {x : Int32} {off : Int} {tgt : Nat} (hd : decode cc pc = .ok (.lookupswitch dflt ps, len)) (hp : (ps.toList.zip (ps.toList.drop 1)).all (fun (a, next) => a.1 < next.1) = true) (ho : Op.lookupswitch.offset ps.toList dflt x.toInt = off) (ht : (pc : Int) + off = (tgt : Int)) (kk : X k cs sl w tgt L st) : X k cs sl w pc L (.int x :: st) := fun H locs ls hP hD hS hl => lv_lookup C.1 C.2.1 hd hp ho ht (kk H locs ls hP hD hS hl)
theorem x_ifnonnull (C : Ck k own cc ret d mc ms post) {a : Nat} {off : Int} {tgt : Nat} (hd : decode cc pc = .ok (.ifnonnull off, 3)) (ht : (pc : Int) + off = (tgt : Int)) (kk : X k cs sl w tgt L st) : X k cs sl w pc L (.ref a :: st) := fun H locs ls hP hD hS hl => lv_ifnonnull C.1 C.2.1 hd ht (kk H locs ls hP hD hS hl)
theorem x_ifnull (C : Ck k own cc ret d mc ms post) {a : Nat} {off : Int} (hd : decode cc pc = .ok (.ifnull off, 3)) (hp : pc + 3 = pc') (kk : X k cs sl w pc' L st) : X k cs sl w pc L (.ref a :: st) := fun H locs ls hP hD hS hl => lv_ifnull C.1 C.2.1 hd (hp ▸ kk H locs ls hP hD hS hl)
theorem x_ifnullN (C : Ck k own cc ret d mc ms post) {off : Int} {tgt : Nat} (hd : decode cc pc = .ok (.ifnull off, 3)) (ht : (pc : Int) + off = (tgt : Int)) (kk : X k cs sl w tgt L st) : X k cs sl w pc L (.null :: st) := fun H locs ls hP hD hS hl => lv_ifnullN C.1 C.2.1 hd ht (kk H locs ls hP hD hS hl)
theorem x_ifnonnullN (C : Ck k own cc ret d mc ms post) {off : Int} (hd : decode cc pc = .ok (.ifnonnull off, 3)) (hp : pc + 3 = pc') (kk : X k cs sl w pc' L st) : X k cs sl w pc L (.null :: st) := fun H locs ls hP hD hS hl => lv_ifnonnullN C.1 C.2.1 hd (hp ▸ kk H locs ls hP hD hS hl)
theorem x_ldci (C : Ck k own cc ret d mc ms post) {index : Nat} {v : Int32} (hc : Jvm.Cond.constant own index v ∈ BIG) (hd : decode cc pc = .ok (.ldc index, 2)) (hp : pc + 2 = pc') (kk : X k cs sl w pc' L (.int v :: st)) : X k cs sl w pc L st := fun H locs ls hP hD hS hl => lv_ldc C.1 C.2.1 C.2.2.2.2.1 (C.2.2.2.2.2.1 _ hc) hd (hp ▸ kk H locs ls hP hD hS hl)
theorem x_ldcw (C : Ck k own cc ret d mc ms post) {index : Nat} {v : Int32} (hc : Jvm.Cond.constant own index v ∈ BIG) (hd : decode cc pc = .ok (.ldc_w index, 3)) (hp : pc + 3 = pc') (kk : X k cs sl w pc' L (.int v :: st)) : X k cs sl w pc L st := fun H locs ls hP hD hS hl => lv_ldcw C.1 C.2.1 C.2.2.2.2.1 (C.2.2.2.2.2.1 _ hc) hd (hp ▸ kk H locs ls hP hD hS hl)
/-- a field is read -/
theorem x_get (C : Ck k own cc ret d mc ms post) {ref Cn : String} {T : u_T} {N ci index a : Nat} (q0 kf : Nat) {fs : List Value} {v : Value} (hin : ∀ w ∈ u_ws Cn T N, w ∈ BIG) (he : w[q0]? = some (a, .inr (ci, fs))) (hc : vwCl[ci]? = some (Cn, T, N)) (hk : kf < N) (hlink : Cond.fieldLink own index ref (T kf).2.1 (T kf).2.2.1 ∈ BIG) (href : (T kf).1 = ref) (hv : fs[kf]? = some v) (hd : decode cc pc = .ok (.getfield index, 3)) (hp : pc + 3 = pc') (kk : X k cs sl w pc' L (v :: st)) : X k cs sl w pc L (.ref a :: st) := fun H locs ls hP hD hS hl =>
  va_get C.1 C.2.1 C.2.2.2.2.2.1 hin C.2.2.2.2.1 C.2.2.2.2.2.2.2.1.1 hP q0 he hc kf hk (C.2.2.2.2.2.1 _ hlink) (by rw [href]; exact fun _ h => h) hv hd (hp ▸ kk H locs ls hP hD hS hl)
/-- a field is written -/
theorem x_put (C : Ck k own cc ret d mc ms post) (B : Cw k) {ref Cn : String} {T : u_T} {N ci index a : Nat} (q0 kf : Nat) {fs : List Value} {v : Value} {ty : FieldType} {w' : va_W} (hin : ∀ w ∈ u_ws Cn T N, w ∈ BIG) (ty0 : Nat → FieldType) (hty : ∀ k, k < N → parseFieldDescriptor (T k).2.2.1 = some (ty0 k)) (hnm : ∀ a, a < N → ∀ b, b < N → a ≠ b → (T a).2.1 ≠ (T b).2.1) (he : w[q0]? = some (a, .inr (ci, fs))) (hc : vwCl[ci]? = some (Cn, T, N)) (hk : kf < N) (hlink : Cond.fieldLink own index ref (T kf).2.1 (T kf).2.2.1 ∈ BIG) (href : (T kf).1 = ref) (hfin : (T kf).2.2.2 = false) (hdt : ty0 kf = ty) (hn : narrow ty v = v) (hfit : fits ty v = true) (hl0 : kf < fs.length) (hd : decode cc pc = .ok (.putfield index, 3)) (hp : pc + 3 = pc') (hw : w.set q0 (a, .inr (ci, fs.set kf v)) = w') (kk : X k cs sl w' pc' L st) : X k cs sl w pc L (v :: .ref a :: st) := fun H locs ls hP hD hS hl =>
  va_put C.1 C.2.1 C.2.2.2.2.2.1 hin ty0 hty hnm C.2.2.2.2.1 C.2.2.2.2.2.2.2.1.1 hP hD (B.1 ▸ hS) q0 he hc kf hk (C.2.2.2.2.2.1 _ hlink) (by rw [href]; exact fun _ h => h) hfin (by rw [← hdt]; exact hty kf hk) hn hfit hl0 hd (fun H1 locs1 hP1 hD1 hS1 => hp ▸ kk H1 locs1 ls (hw ▸ hP1) (hw ▸ hD1) (by rw [B.1]; exact hS1) hl)
/-- an array of ints is read -/
theorem x_iald (C : Ck k own cc ret d mc ms post) {a n : Nat} (q0 : Nat) {f : Nat → Int32} {i v : Int32} (he : w[q0]? = some (a, .inl (gI (kg k), (n, .inl f)))) (hin : vp_in i n) (hv : f i.toNatClampNeg = v) (hd : decode cc pc = .ok (.iaload, 1)) (hp : pc + 1 = pc') (kk : X k cs sl w pc' L (.int v :: st)) : X k cs sl w pc L (.int i :: .ref a :: st) := fun H locs ls hP hD hS hl =>
  va_iald C.1 C.2.1 C.2.2.2.2.2.2.2.1.1 hP q0 0 he rfl hin hd (by rw [hv]; exact hp ▸ kk H locs ls hP hD hS hl)
theorem x_ialdN (C : Ck k own cc ret d mc ms post) {a n : Nat} (q0 : Nat) {f : Nat → Int32} {j : Nat} {v : Int32} (he : w[q0]? = some (a, .inl (gI (kg k), (n, .inl f)))) (hj : j < n) (hn : n < 2 ^ 31) (hv : f j = v) (hd : decode cc pc = .ok (.iaload, 1)) (hp : pc + 1 = pc') (kk : X k cs sl w pc' L (.int v :: st)) : X k cs sl w pc L (.int (nI j) :: .ref a :: st) :=
  x_iald C q0 he (vp_in_nI hj hn) (by rw [nI_clamp (by omega)]; exact hv) hd hp kk
theorem x_cald (C : Ck k own cc ret d mc ms post) {a n : Nat} (q0 : Nat) {f : Nat → Int32} {i v : Int32} (he : w[q0]? = some (a, .inl (gC (kg k), (n, .inl f)))) (hin : vp_in i n) (hv : f i.toNatClampNeg = v) (hd : decode cc pc = .ok (.caload, 1)) (hp : pc + 1 = pc') (kk : X k cs sl w pc' L (.int v :: st)) : X k cs sl w pc L (.int i :: .ref a :: st) := fun H locs ls hP hD hS hl =>
  va_cald C.1 C.2.1 C.2.2.2.2.2.2.2.1.1 hP q0 1 he rfl hin hd (by rw [hv]; exact hp ▸ kk H locs ls hP hD hS hl)
theorem x_iast (C : Ck k own cc ret d mc ms post) (B : Cw k) {a n : Nat} (q0 : Nat) {f : Nat → Int32} {i x : Int32} {w' : va_W} (he : w[q0]? = some (a, .inl (gI (kg k), (n, .inl f)))) (hin : vp_in i n) (hd : decode cc pc = .ok (.iastore, 1)) (hp : pc + 1 = pc') (hw : w.set q0 (a, .inl (gI (kg k), (n, .inl (upd f i.toNatClampNeg x)))) = w') (kk : X k cs sl w' pc' L st) : X k cs sl w pc L (.int x :: .int i :: .ref a :: st) := fun H locs ls hP hD hS hl =>
  va_iast C.1 C.2.1 C.2.2.2.2.2.2.2.1.1 hP hD (B.1 ▸ hS) q0 0 he rfl hin hd (fun H1 locs1 hP1 hD1 hS1 => hp ▸ kk H1 locs1 ls (hw ▸ hP1) (hw ▸ hD1) (by rw [B.1]; exact hS1) hl)
theorem x_iastN (C : Ck k own cc ret d mc ms post) (B : Cw k) {a n : Nat} (q0 : Nat) {f : Nat → Int32} {j : Nat} {x : Int32} {w' : va_W} (he : w[q0]? = some (a, .inl (gI (kg k), (n, .inl f)))) (hj : j < n) (hn : n < 2 ^ 31) (hd : decode cc pc = .ok (.iastore, 1)) (hp : pc + 1 = pc') (hw : w.set q0 (a, .inl (gI (kg k), (n, .inl (upd f j x)))) = w') (kk : X k cs sl w' pc' L st) : X k cs sl w pc L (.int x :: .int (nI j) :: .ref a :: st) :=
  x_iast C B q0 he (vp_in_nI hj hn) hd hp (by rw [nI_clamp (by omega)]; exact hw) kk
theorem x_cast (C : Ck k own cc ret d mc ms post) (B : Cw k) {a n : Nat} (q0 : Nat) {f : Nat → Int32} {i x : Int32} {w' : va_W} (he : w[q0]? = some (a, .inl (gC (kg k), (n, .inl f)))) (hin : vp_in i n) (hx : vp_nar .char x = x) (hd : decode cc pc = .ok (.castore, 1)) (hp : pc + 1 = pc') (hw : w.set q0 (a, .inl (gC (kg k), (n, .inl (upd f i.toNatClampNeg x)))) = w') (kk : X k cs sl w' pc' L st) : X k cs sl w pc L (.int x :: .int i :: .ref a :: st) := fun H locs ls hP hD hS hl =>
  va_cast C.1 C.2.1 C.2.2.2.2.2.2.2.1.1 hP hD (B.1 ▸ hS) q0 1 he rfl hin hd (fun H1 locs1 hP1 hD1 hS1 => by rw [hx] at hP1 hD1; exact hp ▸ kk H1 locs1 ls (hw ▸ hP1) (hw ▸ hD1) (by rw [B.1]; exact hS1) hl)
theorem x_alenI (C : Ck k own cc ret d mc ms post) {a n : Nat} (q0 : Nat) {f : Nat → Int32} {v : Int32} (he : w[q0]? = some (a, .inl (gI (kg k), (n, .inl f)))) (hv : nI n = v) (hd : decode cc pc = .ok (.arraylength, 1)) (hp : pc + 1 = pc') (kk : X k cs sl w pc' L (.int v :: st)) : X k cs sl w pc L (.ref a :: st) := fun H locs ls hP hD hS hl =>
  va_alen C.1 C.2.1 C.2.2.2.2.2.2.2.1.1 hP q0 0 he (ty := .int) rfl hv hd (hp ▸ kk H locs ls hP hD hS hl)
theorem x_alenC (C : Ck k own cc ret d mc ms post) {a n : Nat} (q0 : Nat) {f : Nat → Int32} {v : Int32} (he : w[q0]? = some (a, .inl (gC (kg k), (n, .inl f)))) (hv : nI n = v) (hd : decode cc pc = .ok (.arraylength, 1)) (hp : pc + 1 = pc') (kk : X k cs sl w pc' L (.int v :: st)) : X k cs sl w pc L (.ref a :: st) := fun H locs ls hP hD hS hl =>
  va_alen C.1 C.2.1 C.2.2.2.2.2.2.2.1.1 hP q0 1 he (ty := .char) rfl hv hd (hp ▸ kk H locs ls hP hD hS hl)
theorem x_alenQ (C : Ck k own cc ret d mc ms post) {a n : Nat} (q0 : Nat) {f : Nat → Option Nat} {v : Int32} (he : w[q0]? = some (a, .inl (gQ (kg k), (n, .inr (.inr (.inr (.inr f))))))) (hv : nI n = v) (hd : decode cc pc = .ok (.arraylength, 1)) (hp : pc + 1 = pc') (kk : X k cs sl w pc' L (.int v :: st)) : X k cs sl w pc L (.ref a :: st) := fun H locs ls hP hD hS hl =>
  va_alen C.1 C.2.1 C.2.2.2.2.2.2.2.1.1 hP q0 2 he (ty := .object "RootedDeltas$State") rfl hv hd (hp ▸ kk H locs ls hP hD hS hl)
theorem x_aald (C : Ck k own cc ret d mc ms post) {a n : Nat} (q0 : Nat) {f : Nat → Option Nat} {i : Int32} {v : Value} (he : w[q0]? = some (a, .inl (gQ (kg k), (n, .inr (.inr (.inr (.inr f))))))) (hin : vp_in i n) (hv : va_rf (f i.toNatClampNeg) = v) (hd : decode cc pc = .ok (.aaload, 1)) (hp : pc + 1 = pc') (kk : X k cs sl w pc' L (v :: st)) : X k cs sl w pc L (.int i :: .ref a :: st) := fun H locs ls hP hD hS hl =>
  va_aldq C.1 C.2.1 C.2.2.2.2.2.2.2.1.1 hP q0 2 he rfl hin hd (by rw [hv]; exact hp ▸ kk H locs ls hP hD hS hl)
theorem x_aast (C : Ck k own cc ret d mc ms post) (B : Cw k) {a n v : Nat} (q0 qk : Nat) {vs : List Value} {f : Nat → Option Nat} {i : Int32} {w' : va_W} (he : w[q0]? = some (a, .inl (gQ (kg k), (n, .inr (.inr (.inr (.inr f))))))) (hv : w[qk]? = some (v, .inr (3, vs))) (hin : vp_in i n) (hd : decode cc pc = .ok (.aastore, 1)) (hp : pc + 1 = pc') (hw : w.set q0 (a, .inl (gQ (kg k), (n, .inr (.inr (.inr (.inr (va_up f i.toNatClampNeg (some v)))))))) = w') (kk : X k cs sl w' pc' L st) : X k cs sl w pc L (.ref v :: .int i :: .ref a :: st) := fun H locs ls hP hD hS hl =>
  va_astq C.1 C.2.1 C.2.2.2.2.2.2.2.1.1 hP hD (B.1 ▸ hS) q0 2 qk 3 (r := (RX5, TX5, 13)) he rfl hv rfl hin hd (fun H1 locs1 hP1 hD1 hS1 => hp ▸ kk H1 locs1 ls (hw ▸ hP1) (hw ▸ hD1) (by rw [B.1]; exact hS1) hl)
/-- Math.max, Math.min -/
theorem x_max (C : Ck k own cc ret d mc ms post) {index : Nat} {x y v : Int32} (h1 : Cond.methodLink own index Lib.Math.max.name ∈ BIG) (h2 : Cond.static Lib.Math.max.name ∈ BIG) (h3 : Cond.initialized "java/lang/Math" ∈ BIG) (h4 : Cond.code Lib.Math.max.name Lib.Math.max.code 2 (some .int) ∈ BIG) (hdd : 1 ≤ d) (hst : (st.map fun v => v.category).sum ≤ 8) (hcs : cs ≤ mc) (hsl : sl ≤ ms) (hv : (if x < y then y else x) = v) (hd : decode cc pc = .ok (.invokestatic index, 3)) (hp : pc + 3 = pc') (kk : X k cs sl w pc' L (.int v :: st)) : X k cs sl w pc L (.int y :: .int x :: st) := fun H locs ls hP hD hS hl => by
  have hR := C.2.2.2.2.2.2.2.2.2.1
  exact va_mmax C.1 C.2.1 (by rw [C.2.2.2.1, hl.2.2.1]) C.2.2.2.2.1 (C.2.2.2.2.2.1 _ h1) (C.2.2.2.2.2.1 _ h2) (C.2.2.2.2.2.1 _ h3) (C.2.2.2.2.2.1 _ h4) (by rw [hR]; exact hdd) (by rw [hR]; show _ ≤ 36 * d + 12; omega) (by rw [hR]; exact hcs) (by rw [hR]; exact hsl) hd (by rw [hv]; exact hp ▸ kk H locs ls hP hD hS hl)
theorem x_min (C : Ck k own cc ret d mc ms post) {index : Nat} {x y v : Int32} (h1 : Cond.methodLink own index Lib.Math.min.name ∈ BIG) (h2 : Cond.static Lib.Math.min.name ∈ BIG) (h3 : Cond.initialized "java/lang/Math" ∈ BIG) (h4 : Cond.code Lib.Math.min.name Lib.Math.min.code 2 (some .int) ∈ BIG) (hdd : 1 ≤ d) (hst : (st.map fun v => v.category).sum ≤ 8) (hcs : cs ≤ mc) (hsl : sl ≤ ms) (hv : (if y < x then y else x) = v) (hd : decode cc pc = .ok (.invokestatic index, 3)) (hp : pc + 3 = pc') (kk : X k cs sl w pc' L (.int v :: st)) : X k cs sl w pc L (.int y :: .int x :: st) := fun H locs ls hP hD hS hl => by
  have hR := C.2.2.2.2.2.2.2.2.2.1
  exact va_mmin C.1 C.2.1 (by rw [C.2.2.2.1, hl.2.2.1]) C.2.2.2.2.1 (C.2.2.2.2.2.1 _ h1) (C.2.2.2.2.2.1 _ h2) (C.2.2.2.2.2.1 _ h3) (C.2.2.2.2.2.1 _ h4) (by rw [hR]; exact hdd) (by rw [hR]; show _ ≤ 36 * d + 12; omega) (by rw [hR]; exact hcs) (by rw [hR]; exact hsl) hd (by rw [hv]; exact hp ▸ kk H locs ls hP hD hS hl)
/-- the ends -/
theorem x_iret (C : Ck k own cc (some .int) d mc ms post) {v : Int32} (hcs : cs ≤ mc) (hsl : sl ≤ ms) (hd : decode cc pc = .ok (.ireturn, 1)) (hq : post (some (.int v)) w) : X k cs sl w pc L [.int v] := fun H locs ls hP hD hS hl => by
  obtain ⟨hx, hb, hr, hml, hown, hts, hlk, hG, hHk, hR, Qc, free, hQ, hfr, hend⟩ := C
  rw [hQ]
  exact W.widen hcs hsl (W.iret hx hb hr (fun t ht hW => hend H locs _ w t hP hD hS hq ht hW) (hfr H locs hS) hd hlk)
theorem x_zret (C : Ck k own cc (some .boolean) d mc ms post) {b : Bool} (hcs : cs ≤ mc) (hsl : sl ≤ ms) (hd : decode cc pc = .ok (.ireturn, 1)) (hq : post (some (.int (bI b))) w) : X k cs sl w pc L [.int (bI b)] := fun H locs ls hP hD hS hl => by
  obtain ⟨hx, hb, hr, hml, hown, hts, hlk, hG, hHk, hR, Qc, free, hQ, hfr, hend⟩ := C
  rw [hQ]
  exact W.widen hcs hsl (W.zret hx hb hr (bI_nar b) (fun t ht hW => hend H locs _ w t hP hD hS hq ht hW) (hfr H locs hS) hd hlk)
theorem x_nret (C : Ck k own cc ret d mc ms post) {ty : FieldType} {v : Int32} (hty : ret = some ty) (hn : narrow ty (.int v) = .int v) (hcs : cs ≤ mc) (hsl : sl ≤ ms) (hd : decode cc pc = .ok (.ireturn, 1)) (hq : post (some (.int v)) w) : X k cs sl w pc L [.int v] := fun H locs ls hP hD hS hl => by
  obtain ⟨hx, hb, hr, hml, hown, hts, hlk, hG, hHk, hR, Qc, free, hQ, hfr, hend⟩ := C
  rw [hQ]
  exact W.widen hcs hsl (W.zret hx hb (hr.trans hty) hn (fun t ht hW => hend H locs _ w t hP hD hS hq ht hW) (hfr H locs hS) hd hlk)
theorem x_vret (C : Ck k own cc none d mc ms post) (hcs : cs ≤ mc) (hsl : sl ≤ ms) (hd : decode cc pc = .ok (.return_, 1)) (hq : post none w) : X k cs sl w pc L [] := fun H locs ls hP hD hS hl => by
  obtain ⟨hx, hb, hr, hml, hown, hts, hlk, hG, hHk, hR, Qc, free, hQ, hfr, hend⟩ := C
  rw [hQ]
  exact W.widen hcs hsl (W.vret hx hb hr (fun t ht hW => hend H locs _ w t hP hD hS hq ht hW) (hfr H locs hS) hd hlk)
theorem x_aret (C : Ck k own cc ret d mc ms post) {nm : String} {r : Option Nat} (hty : ret = some (.object nm)) (hcs : cs ≤ mc) (hsl : sl ≤ ms) (hd : decode cc pc = .ok (.areturn, 1)) (hq : post (some (va_rf r)) w) : X k cs sl w pc L [va_rf r] := fun H locs ls hP hD hS hl => by
  obtain ⟨hx, hb, hr, hml, hown, hts, hlk, hG, hHk, hR, Qc, free, hQ, hfr, hend⟩ := C
  rw [hQ]
  exact W.widen hcs hsl (W.aret hx hb (hr.trans hty) (Or.inl ⟨_, rfl⟩) (by cases r with | none => exact Or.inl rfl | some a => exact Or.inr ⟨a, rfl⟩) (fun t ht hW => hend H locs _ w t hP hD hS hq ht hW) (hfr H locs hS) hd hlk)
end RULES
/-! CONTRACTS: a method that only reads (CR), a method that writes its world (CWx; CW where the new world is known) -/
def wA (w : va_W) : Nat → Prop := fun q => ∃ (k : Nat) (e : va_E), w[k]? = some (q, e)
theorem wA_D {A : Nat → Prop} {w : va_W} (h : va_D A w) : va_D (wA w) w := ⟨h.1, fun k q hk => ⟨k, q.2, hk⟩⟩
def QR (post : Option Value → Prop) : Array Value → State → Outcome → State → Prop := fun _ st o t => ∃ v : Option Value, o = .returned v ∧ post v ∧ t.heap = st.heap
def PR (g : GT) (w : va_W) : State → Prop := fun U => va_P g.1 vwCl w U.heap ∧ va_D (fun _ => True) w ∧ GS g (wA w) U U.heap
def CRx (l : Launch) (y : MethodName) (cy : Cond) (d : Nat) (g : GT) (av : List Value) (w : va_W) (post : Option Value → Prop) : Prop := Met l y (wB cy) (rmd d 0 0) (va_Pc av (PR g w)) (QR post) 0 0 (fun _ => False)
def CR (l : Launch) (y : MethodName) (cy : Cond) (d : Nat) (g : GT) (av : List Value) (w : va_W) (r : Option Value) : Prop := CRx l y cy d g av w (fun v => v = r)
def PW (g : GT) (w : va_W) (sz : Nat) : State → Prop := fun U => U.heap.size = sz ∧ va_P g.1 vwCl w U.heap ∧ va_D (fun _ => True) w ∧ GS g (va_A w sz) U U.heap
def QW (g : GT) (w : va_W) (sz : Nat) (post : Option Value → va_W → Prop) : Array Value → State → Outcome → State → Prop := fun _ st o t => (∃ (v : Option Value) (u : va_W), o = .returned v ∧ post v u ∧ va_P g.1 vwCl u t.heap ∧ va_D (va_A w sz) u) ∧ va_F (va_A w sz) st t
def CWx (l : Launch) (y : MethodName) (cy : Cond) (d mc ms : Nat) (g : GT) (av : List Value) (w : va_W) (post : Option Value → va_W → Prop) : Prop := ∀ sz : Nat, Met l y (wB cy) (rmd d mc ms) (va_Pc av (PW g w sz)) (QW g w sz post) mc ms (va_A w sz)
def CW (l : Launch) (y : MethodName) (cy : Cond) (d : Nat) (g : GT) (av : List Value) (w : va_W) (r : Option Value) (w' : va_W) : Prop := CWx l y cy d 0 0 g av w (fun v u => v = r ∧ u = w')
theorem CRx.of {l : Launch} {y : MethodName} {cy : Cond} {own : String} {cc : ByteArray} {nL d : Nat} {ret : Option FieldType} {g : GT} {av : List Value} {w : va_W} {post : Option Value → Prop} (hcy : cy = .code y cc nL ret) (hy : plainName y.cls = true) (ho : y.cls = own) (hc : ∀ v ∈ av, v.category = 1) (hn : av.length ≤ nL)
    (body : ∀ k : KT, Ck k own cc ret d 0 0 (fun v _ => post v) → kl k = l → kg k = g → X k 0 0 w 0 (av.map some ++ List.replicate (nL - av.length) none) []) : CRx l y cy d g av w post := by
  subst hcy
  refine Met.ofW (cc := cc) (maxL := nL) (ret := ret) hy rfl ?_
  intro p e s m args below meth c s₁ B hml hv
  obtain ⟨rfl, hP, hD, hG⟩ := hv
  have hts := atoms_spec (ws := wB (.code y cc nL ret)) B.pre
  have hown : s.vm.findClass own = some m.cls := ho ▸ findClass_of_methodNamed B.named
  have key := body (p, l, e, rmd d 0 0, s, m, av.toArray, below, meth, c, g, wA w, (fun H locs => H = s.heap ∧ locs = []), MQ below (QR post) av.toArray s 0 0 (fun _ => False), nL)
    ⟨B.exec, B.bytes, B.returns, hml, hown, fun w hw => hts w (List.mem_cons_of_mem _ hw), B.notSynchronized, hG, ?_, rfl, QR post, (fun _ => False), rfl, ?_, ?_⟩ rfl rfl
  · rw [lg_entry_eq]
    exact key s.heap [] _ hP (wA_D hD) ⟨rfl, rfl⟩ (lh_entry av nL hc hn)
  · rintro H locs ⟨rfl, rfl⟩
    exact ⟨Nat.le_refl _, fun _ _ _ => rfl⟩
  · rintro H locs ⟨rfl, rfl⟩ q hq
    cases hq
  · rintro H locs v w t hP hD ⟨rfl, rfl⟩ hpost ht hW
    exact ⟨v, rfl, hpost, ht⟩
theorem CWx.of {l : Launch} {y : MethodName} {cy : Cond} {own : String} {cc : ByteArray} {nL d mc ms : Nat} {ret : Option FieldType} {g : GT} {av : List Value} {w : va_W} {post : Option Value → va_W → Prop} (hcy : cy = .code y cc nL ret) (hy : plainName y.cls = true) (ho : y.cls = own) (hc : ∀ v ∈ av, v.category = 1) (hn : av.length ≤ nL)
    (body : ∀ k : KT, Ck k own cc ret d mc ms post → Cw k → (y.name = "<init>" → (kme k).name = "<init>") → kl k = l → kg k = g → X k 0 0 w 0 (av.map some ++ List.replicate (nL - av.length) none) []) : CWx l y cy d mc ms g av w post := by
  subst hcy
  intro sz
  refine Met.ofW (cc := cc) (maxL := nL) (ret := ret) hy rfl ?_
  intro p e s m args below meth c s₁ B hml hv
  obtain ⟨rfl, hsz, hP, hD, hG⟩ := hv
  subst hsz
  have hts := atoms_spec (ws := wB (.code y cc nL ret)) B.pre
  have hown : s.vm.findClass own = some m.cls := ho ▸ findClass_of_methodNamed B.named
  have key := body (p, l, e, rmd d mc ms, s, m, av.toArray, below, meth, c, g, va_A w s.heap.size, va_S (va_A w s.heap.size) s.heap, MQ below (QW g w s.heap.size post) av.toArray s mc ms (va_A w s.heap.size), nL)
    ⟨B.exec, B.bytes, B.returns, hml, hown, fun w hw => hts w (List.mem_cons_of_mem _ hw), B.notSynchronized, hG, ?_, rfl, QW g w s.heap.size post, va_A w s.heap.size, rfl, ?_, ?_⟩ ⟨rfl, fun q hq => Or.inr hq⟩ (fun h => (name_of_methodNamed B.named B.method).1.trans h) rfl rfl
  · rw [lg_entry_eq]
    exact key s.heap [] _ hP hD.self va_S.rf (lh_entry av nL hc hn)
  · intro H locs hS
    exact ⟨hS.1, hS.2.1⟩
  · intro H locs hS q hq
    exact hS.2.2 q hq
  · intro H locs v u t hP hD hS hpost ht hW
    exact ⟨⟨v, u, rfl, hpost, by rw [ht]; exact hP, hD⟩, hS.F ht⟩
theorem fb_R {g : GT} {av : List Value} {w : va_W} : FrameBlind (va_Pc av (PR g w)) := fun _ _ _ _ q => ⟨q.1, q.2.1, q.2.2.1, GS.same rfl q.2.2.2⟩
theorem fb_W {g : GT} {av : List Value} {w : va_W} {sz : Nat} : FrameBlind (va_Pc av (PW g w sz)) := fun _ _ _ _ q => ⟨q.1, q.2.1, q.2.2.1, q.2.2.2.1, GS.same rfl q.2.2.2.2⟩
/-- the cells of a world at some places -/
def pick (w : va_W) (is : List Nat) : va_W := is.filterMap (fun i => w[i]?)
theorem pick_of : ∀ {is : List Nat} {w w' : va_W}, is.map (fun i => w[i]?) = w'.map some → is.filterMap (fun i => w[i]?) = w'
  | [], w, w', h => by
    cases w' with
    | nil => rfl
    | cons a t => simp at h
  | i :: t, w, w', h => by
    cases w' with
    | nil => simp at h
    | cons a u =>
      rw [List.map_cons, List.map_cons] at h
      have h1 := List.cons.inj h
      rw [List.filterMap_cons, h1.1, pick_of h1.2]
theorem wA_of {A : Nat → Prop} {w wc : va_W} (hD : va_D A w) {is : List Nat} (hs : is.map (fun i => w[i]?) = wc.map some) : ∀ q, wA wc q → A q := by
  rintro q ⟨k, e, h⟩
  have hm : (q, e) ∈ wc := List.mem_of_getElem? h
  rw [← pick_of hs] at hm
  obtain ⟨i, -, hi⟩ := List.mem_filterMap.mp hm
  exact hD.2 i (q, e) hi
section CALLS
variable {k : KT} {own : String} {cc : ByteArray} {ret : Option FieldType} {d mc ms : Nat} {post : Option Value → va_W → Prop} {cs sl : Nat} {w : va_W} {pc pc' : Nat} {L L' : List (Option Value)} {st st' st2 : List Value}
variable {y : MethodName} {bytes : ByteArray} {maxL n d0 index : Nat} {rt : Option FieldType} {As : List Value} {wc : va_W} {r : Option Value} {postr : Option Value → Prop}
def okV (y : MethodName) (n maxL : Nat) : Prop := y.cls ≠ "java/lang/invoke/MethodHandle" ∧ y.cls ≠ "java/lang/invoke/VarHandle" ∧ (parseMethodDescriptor y.desc).map (fun d => d.parameters.length) = some n ∧ maxL ≤ 17
theorem room_le {d0 d maxL mc ms mc0 ms0 : Nat} (hd : d0 + 1 ≤ d) (hm : maxL ≤ 17) : (rmd d0 mc0 ms0).frames + 1 ≤ (rmd d mc ms).frames ∧ 8 + (maxL + 11) + (rmd d0 mc0 ms0).locals ≤ (rmd d mc ms).locals := ⟨hd, by show 8 + (maxL + 11) + (36 * d0 + 12) ≤ 36 * d + 12; omega⟩
/-- what a call that only reads gives back -/
theorem x_backR {H : Heap} {locs : List Loc} {ls : Array Slot} {Qa : State → Outcome → State → Prop} (hP : va_P (kg k).1 vwCl w H) (hD : va_D (kA k) w) (hS : kH k H locs) (hl : lh ls (kn k) L)
    (hr : CallRun (kp k) (kl k) (ke k) (kR k) (ks k) (km k) (kar k) (kbe k) (kme k) (kc k) H locs cs sl 0 0 (F0 (km k) pc ls st') st Qa (fun _ => False)) (hQ : ∀ st₀ o t, Qa st₀ o t → ∃ v : Option Value, o = .returned v ∧ postr v ∧ t.heap = st₀.heap) (kk : ∀ v : Option Value, postr v → X k cs sl w (pc + 3) L (v.toList ++ st)) :
    W (kp k) (kl k) (ke k) (kR k) (ks k) (km k) (kar k) (kbe k) (kme k) (kc k) H locs cs sl (kQ k) (F0 (km k) pc ls st') := by
  intro T hT X0
  obtain ⟨v, st₀, t, T', L1, h0, X', hL, e1, hq, go⟩ := hr T hT X0
  obtain ⟨v', hv, hp, hh⟩ := hQ _ _ _ hq
  cases hv
  obtain ⟨t2, a1, b1⟩ := kk v hp H locs ls hP hD hS hl T' (by rw [e1, hh, h0]) (Stand.forget X' (fun q h => (hL q h).elim))
  exact ⟨t2, go t2 a1, b1⟩
theorem x_preR (C : Ck k own cc ret d mc ms post) {H : Heap} {locs : List Loc} (hP : va_P (kg k).1 vwCl w H) (hD : va_D (kA k) w) (hS : kH k H locs) (is : List Nat) (hnd : va_nd is = true) (hs : is.map (fun i => w[i]?) = wc.map some) : ∀ U : State, U.heap = H → (ks k).WarmedH U.vm → PR (kg k) wc U := by
  intro U hU hW
  have h1 := C.2.2.2.2.2.2.2.2.1 H locs hS
  have hG := (((C.2.2.2.2.2.2.2.1.kept h1.2).narrow (wA_of hD hs)).warm hW)
  exact ⟨by rw [hU]; exact hP.sub is (pick_of hs), (hD.sub is hnd hs).weaken (fun _ _ _ _ => trivial), by rw [hU]; exact hG⟩
theorem x_rV (C : Ck k own cc ret d mc ms post) {Cn : String} {T : u_T} {N b ci : Nat} {fs : List Value} (hM : CRx (kl k) y (.code y bytes maxL rt) d0 (kg k) (.ref b :: As) wc postr) (gw : GoodIn BIG (wsV own index Cn y (wB (.code y bytes maxL rt)))) (hy : okV y n maxL) (hyc : y.cls = Cn) (hdd : d0 + 1 ≤ d) (q0 : Nat) (he : w[q0]? = some (b, .inr (ci, fs))) (hcl : vwCl[ci]? = some (Cn, T, N)) (is : List Nat) (hnd : va_nd is = true) (hs : is.map (fun i => w[i]?) = wc.map some) (hn : As.length = n) (hcat : (st.map fun v => v.category).sum ≤ 8) (hcs : cs ≤ mc) (hsl : sl ≤ ms) (hst : st' = As.reverse ++ .ref b :: st) (hd : decode cc pc = .ok (.invokevirtual index, 3)) (hp : pc + 3 = pc') (kk : ∀ v : Option Value, postr v → X k cs sl w pc' L (v.toList ++ st)) : X k cs sl w pc L st' := by
  intro H locs ls hP hD hS hl
  have hR := C.2.2.2.2.2.2.2.2.2.1
  refine x_backR (postr := postr) hP hD hS hl (W.runV (C := Cn) (n := n) (nL := kn k) (own := own) (Ts := BIG) (rest := st) (As := As) (mc := 0) (ms := 0) ⟨C.1, C.2.1, C.2.2.2.1, C.2.2.2.2.1, C.2.2.2.2.2.1⟩ hM (cwV n C.2.2.2.2.2.1 gw rfl rfl rfl ⟨hyc, hy.1, hy.2.1, hy.2.2.1⟩ (by rw [hR]; exact room_le hdd hy.2.2.2)) ⟨fb_R, va_recv C.2.2.2.2.2.2.2.1.1 hP hcl he, fun U hU hW => ⟨rfl, x_preR C hP hD hS is hnd hs U hU hW⟩⟩ rfl hn hl.2.2.1 hst (lv_room hcat) hd ⟨by rw [hR]; exact hcs, by rw [hR]; exact hsl⟩) (fun _ _ _ q => q) (hp ▸ kk)
theorem x_rS (C : Ck k own cc ret d mc ms post) (hM : CRx (kl k) y (.code y bytes maxL rt) d0 (kg k) As wc postr) (gw : GoodIn BIG (va_wsS own index y (wB (.code y bytes maxL rt)))) (hy : okV y n maxL) (hdd : d0 + 1 ≤ d) (is : List Nat) (hnd : va_nd is = true) (hs : is.map (fun i => w[i]?) = wc.map some) (hn : As.length = n) (hcat : (st.map fun v => v.category).sum ≤ 8) (hcs : cs ≤ mc) (hsl : sl ≤ ms) (hst : st' = As.reverse ++ st) (hd : decode cc pc = .ok (.invokestatic index, 3)) (hp : pc + 3 = pc') (kk : ∀ v : Option Value, postr v → X k cs sl w pc' L (v.toList ++ st)) : X k cs sl w pc L st' := by
  intro H locs ls hP hD hS hl
  have hR := C.2.2.2.2.2.2.2.2.2.1
  refine x_backR (postr := postr) hP hD hS hl (W.runS (n := n) (nL := kn k) (own := own) (Ts := BIG) (rest := st) (As := As) (mc := 0) (ms := 0) ⟨C.1, C.2.1, C.2.2.2.1, C.2.2.2.2.1, C.2.2.2.2.2.1⟩ hM (va_cwS n C.2.2.2.2.2.1 gw rfl rfl rfl ⟨hy.1, hy.2.1, hy.2.2.1⟩ (by rw [hR]; exact room_le hdd hy.2.2.2)) ⟨fb_R, fun U hU hW => ⟨rfl, x_preR C hP hD hS is hnd hs U hU hW⟩⟩ rfl hn hl.2.2.1 hst (lv_room hcat) hd ⟨by rw [hR]; exact hcs, by rw [hR]; exact hsl⟩) (fun _ _ _ q => q) (hp ▸ kk)
/-- the same with a known answer -/
theorem x_RV (C : Ck k own cc ret d mc ms post) {Cn : String} {T : u_T} {N b ci : Nat} {fs : List Value} (hM : CR (kl k) y (.code y bytes maxL rt) d0 (kg k) (.ref b :: As) wc r) (gw : GoodIn BIG (wsV own index Cn y (wB (.code y bytes maxL rt)))) (hy : okV y n maxL) (hyc : y.cls = Cn) (hdd : d0 + 1 ≤ d) (q0 : Nat) (he : w[q0]? = some (b, .inr (ci, fs))) (hcl : vwCl[ci]? = some (Cn, T, N)) (is : List Nat) (hnd : va_nd is = true) (hs : is.map (fun i => w[i]?) = wc.map some) (hn : As.length = n) (hcat : (st.map fun v => v.category).sum ≤ 8) (hcs : cs ≤ mc) (hsl : sl ≤ ms) (hst : st' = As.reverse ++ .ref b :: st) (hd : decode cc pc = .ok (.invokevirtual index, 3)) (hp : pc + 3 = pc') (hr : r.toList ++ st = st2) (kk : X k cs sl w pc' L st2) : X k cs sl w pc L st' :=
  x_rV C hM gw hy hyc hdd q0 he hcl is hnd hs hn hcat hcs hsl hst hd hp (fun v hv => by rw [hv, hr]; exact kk)
theorem x_RS (C : Ck k own cc ret d mc ms post) (hM : CR (kl k) y (.code y bytes maxL rt) d0 (kg k) As wc r) (gw : GoodIn BIG (va_wsS own index y (wB (.code y bytes maxL rt)))) (hy : okV y n maxL) (hdd : d0 + 1 ≤ d) (is : List Nat) (hnd : va_nd is = true) (hs : is.map (fun i => w[i]?) = wc.map some) (hn : As.length = n) (hcat : (st.map fun v => v.category).sum ≤ 8) (hcs : cs ≤ mc) (hsl : sl ≤ ms) (hst : st' = As.reverse ++ st) (hd : decode cc pc = .ok (.invokestatic index, 3)) (hp : pc + 3 = pc') (hr : r.toList ++ st = st2) (kk : X k cs sl w pc' L st2) : X k cs sl w pc L st' :=
  x_rS C hM gw hy hdd is hnd hs hn hcat hcs hsl hst hd hp (fun v hv => by rw [hv, hr]; exact kk)
/-- what a call that writes gives back -/
theorem x_backW (C : Ck k own cc ret d mc ms post) (B : Cw k) {H : Heap} {locs : List Loc} {ls : Array Slot} {mc0 ms0 : Nat} {postw : Option Value → va_W → Prop} {a : Array Value} (hP : va_P (kg k).1 vwCl w H) (hD : va_D (kA k) w) (hS : kH k H locs) (hl : lh ls (kn k) L) (is iR : List Nat) (hs : is.map (fun i => w[i]?) = wc.map some) (hsR : iR.map (fun i => w[i]?) = (pick w iR).map some) (hnR : va_nd iR = true) (hdis : ∀ i ∈ iR, i ∉ is)
    (hr : va_Run (kp k) (kl k) (ke k) (kR k) (ks k) (km k) (kar k) (kbe k) (kme k) (kc k) H locs cs sl mc0 ms0 (F0 (km k) pc ls st') st (QW (kg k) wc H.size postw a) (va_A wc H.size)) (kk : ∀ (v : Option Value) (u : va_W), postw v u → X k (cs + mc0) (sl + ms0) (pick w iR ++ u) (pc + 3) L (v.toList ++ st)) :
    W (kp k) (kl k) (ke k) (kR k) (ks k) (km k) (kar k) (kbe k) (kme k) (kc k) H locs cs sl (kQ k) (F0 (km k) pc ls st') := by
  intro T hT X0
  obtain ⟨v, st₀, t, T', L1, h0, X', hL, e1, e2, ⟨⟨v', u, hv, hp, hP1, hD1⟩, hz, hk⟩, go⟩ := hr T hT X0
  cases hv
  rw [h0] at hz hk
  have hS' : va_S (kA k) (ks k).heap H locs := B.1 ▸ hS
  have hF := va_free (wc := wc) hD hS' B.2 is hs
  obtain ⟨hP2, hD2⟩ := va_join (wr := pick w iR) (w1 := u) (H1 := t.heap) hP hD is iR hs hsR hnR hdis hk hF hP1 hD1
  have hS2 : va_S (kA k) (ks k).heap t.heap (locs ++ L1) := ⟨Nat.le_trans hS'.1 hz, fun q h1 h2 => by
      rw [hk q (Nat.lt_of_lt_of_le h1 hS'.1) (fun z => h2 (hF q z))]
      exact hS'.2.1 q h1 h2, fun q hq => by
      rcases List.mem_append.mp hq with h | h
      · exact hS'.2.2 q h
      · exact hF _ (hL q h)⟩
  obtain ⟨t2, a1, b1⟩ := kk v u hp t.heap (locs ++ L1) ls hP2 hD2 (by rw [B.1]; exact hS2) hl T' e1 X'
  exact ⟨t2, go t2 a1, b1⟩
theorem x_preW (C : Ck k own cc ret d mc ms post) (B : Cw k) {H : Heap} {locs : List Loc} (hP : va_P (kg k).1 vwCl w H) (hD : va_D (kA k) w) (hS : kH k H locs) (is : List Nat) (hnd : va_nd is = true) (hs : is.map (fun i => w[i]?) = wc.map some) : ∀ U : State, U.heap = H → (ks k).WarmedH U.vm → PW (kg k) wc H.size U := by
  intro U hU hW
  have h1 := C.2.2.2.2.2.2.2.2.1 H locs hS
  have hS' : va_S (kA k) (ks k).heap H locs := B.1 ▸ hS
  have hG := (((C.2.2.2.2.2.2.2.1.kept h1.2).narrow (va_free (wc := wc) hD hS' B.2 is hs)).warm hW)
  exact ⟨by rw [hU], by rw [hU]; exact hP.sub is (pick_of hs), (hD.sub is hnd hs).weaken (fun _ _ _ _ => trivial), by rw [hU]; exact hG⟩
theorem x_wV (C : Ck k own cc ret d mc ms post) (B : Cw k) {mc0 ms0 : Nat} {postw : Option Value → va_W → Prop} {Cn : String} {T : u_T} {N b ci : Nat} {fs : List Value} (hM : CWx (kl k) y (.code y bytes maxL rt) d0 mc0 ms0 (kg k) (.ref b :: As) wc postw) (gw : GoodIn BIG (wsV own index Cn y (wB (.code y bytes maxL rt)))) (hy : okV y n maxL) (hyc : y.cls = Cn) (hdd : d0 + 1 ≤ d) (q0 : Nat) (he : w[q0]? = some (b, .inr (ci, fs))) (hcl : vwCl[ci]? = some (Cn, T, N)) (is iR : List Nat) (hnd : va_nd is = true) (hs : is.map (fun i => w[i]?) = wc.map some) (hsR : iR.map (fun i => w[i]?) = (pick w iR).map some) (hnR : va_nd iR = true) (hdis : ∀ i ∈ iR, i ∉ is) (hn : As.length = n) (hcat : (st.map fun v => v.category).sum ≤ 8) (hcs : cs + mc0 ≤ mc) (hsl : sl + ms0 ≤ ms) (hst : st' = As.reverse ++ .ref b :: st) (hd : decode cc pc = .ok (.invokevirtual index, 3)) (hp : pc + 3 = pc') (kk : ∀ (v : Option Value) (u : va_W), postw v u → X k (cs + mc0) (sl + ms0) (pick w iR ++ u) pc' L (v.toList ++ st)) : X k cs sl w pc L st' := by
  intro H locs ls hP hD hS hl
  have hR := C.2.2.2.2.2.2.2.2.2.1
  exact x_backW C B (a := (Value.ref b :: As).toArray) hP hD hS hl is iR hs hsR hnR hdis (va_runV (C := Cn) (n := n) (nL := kn k) (own := own) (Ts := BIG) (rest := st) (As := As) ⟨C.1, C.2.1, C.2.2.2.1, C.2.2.2.2.1, C.2.2.2.2.2.1⟩ (hM H.size) (cwV n C.2.2.2.2.2.1 gw rfl rfl rfl ⟨hyc, hy.1, hy.2.1, hy.2.2.1⟩ (by rw [hR]; exact room_le hdd hy.2.2.2)) ⟨fb_W, va_recv C.2.2.2.2.2.2.2.1.1 hP hcl he, fun U hU hW => ⟨rfl, x_preW C B hP hD hS is hnd hs U hU hW⟩⟩ rfl hn hl.2.2.1 hst (lv_room hcat) hd ⟨by rw [hR]; exact hcs, by rw [hR]; exact hsl⟩) (hp ▸ kk)
theorem x_wS (C : Ck k own cc ret d mc ms post) (B : Cw k) {mc0 ms0 : Nat} {postw : Option Value → va_W → Prop} (hM : CWx (kl k) y (.code y bytes maxL rt) d0 mc0 ms0 (kg k) As wc postw) (gw : GoodIn BIG (va_wsS own index y (wB (.code y bytes maxL rt)))) (hy : okV y n maxL) (hdd : d0 + 1 ≤ d) (is iR : List Nat) (hnd : va_nd is = true) (hs : is.map (fun i => w[i]?) = wc.map some) (hsR : iR.map (fun i => w[i]?) = (pick w iR).map some) (hnR : va_nd iR = true) (hdis : ∀ i ∈ iR, i ∉ is) (hn : As.length = n) (hcat : (st.map fun v => v.category).sum ≤ 8) (hcs : cs + mc0 ≤ mc) (hsl : sl + ms0 ≤ ms) (hst : st' = As.reverse ++ st) (hd : decode cc pc = .ok (.invokestatic index, 3)) (hp : pc + 3 = pc') (kk : ∀ (v : Option Value) (u : va_W), postw v u → X k (cs + mc0) (sl + ms0) (pick w iR ++ u) pc' L (v.toList ++ st)) : X k cs sl w pc L st' := by
  intro H locs ls hP hD hS hl
  have hR := C.2.2.2.2.2.2.2.2.2.1
  exact x_backW C B (a := As.toArray) hP hD hS hl is iR hs hsR hnR hdis (va_runS (n := n) (nL := kn k) (own := own) (Ts := BIG) (rest := st) (As := As) ⟨C.1, C.2.1, C.2.2.2.1, C.2.2.2.2.1, C.2.2.2.2.2.1⟩ (hM H.size) (va_cwS n C.2.2.2.2.2.1 gw rfl rfl rfl ⟨hy.1, hy.2.1, hy.2.2.1⟩ (by rw [hR]; exact room_le hdd hy.2.2.2)) ⟨fb_W, fun U hU hW => ⟨rfl, x_preW C B hP hD hS is hnd hs U hU hW⟩⟩ rfl hn hl.2.2.1 hst (lv_room hcat) hd ⟨by rw [hR]; exact hcs, by rw [hR]; exact hsl⟩) (hp ▸ kk)
theorem x_wI (C : Ck k own cc ret d mc ms post) (B : Cw k) {mc0 ms0 b : Nat} {postw : Option Value → va_W → Prop} (hM : CWx (kl k) y (.code y bytes maxL none) d0 mc0 ms0 (kg k) (.ref b :: As) wc postw) (gw : GoodIn BIG (wB (.code y bytes maxL none))) (h1 : Cond.methodLink own index y ∈ BIG) (h2 : Cond.instanceMethod y ∈ BIG) (h3 : Cond.initialized y.cls ∈ BIG) (hy1 : y.name = "<init>") (hy : okV y n maxL) (hdd : d0 + 1 ≤ d) (is iR : List Nat) (hnd : va_nd is = true) (hs : is.map (fun i => w[i]?) = wc.map some) (hsR : iR.map (fun i => w[i]?) = (pick w iR).map some) (hnR : va_nd iR = true) (hdis : ∀ i ∈ iR, i ∉ is) (hn : As.length = n) (hcat : (st.map fun v => v.category).sum ≤ 8) (hcs : cs + mc0 ≤ mc) (hsl : sl + ms0 ≤ ms) (hst : st' = As.reverse ++ .ref b :: st) (hd : decode cc pc = .ok (.invokespecial index, 3)) (hp : pc + 3 = pc') (kk : ∀ (v : Option Value) (u : va_W), postw v u → X k (cs + mc0) (sl + ms0) (pick w iR ++ u) pc' L (v.toList ++ st)) : X k cs sl w pc L st' := by
  intro H locs ls hP hD hS hl
  have hR := C.2.2.2.2.2.2.2.2.2.1
  exact x_backW C B (a := (Value.ref b :: As).toArray) hP hD hS hl is iR hs hsR hnR hdis (va_runI (n := n) (nL := kn k) (own := own) (Ts := BIG) (rest := st) (As := As) ⟨C.1, C.2.1, C.2.2.2.1, C.2.2.2.2.1, C.2.2.2.2.2.1⟩ (hM H.size) (cwI n C.2.2.2.2.2.1 gw rfl rfl rfl (C.2.2.2.2.2.1 _ h3) (C.2.2.2.2.2.1 _ h1) (C.2.2.2.2.2.1 _ h2) hy1 ⟨hy.1, hy.2.1, hy.2.2.1⟩ (by rw [hR]; exact room_le hdd hy.2.2.2)) ⟨fb_W, fun U hU hW => ⟨rfl, x_preW C B hP hD hS is hnd hs U hU hW⟩⟩ rfl hn hl.2.2.1 hst (lv_room hcat) hd ⟨by rw [hR]; exact hcs, by rw [hR]; exact hsl⟩) (hp ▸ kk)
/-- a writing call whose new world is known: it's put in its places; pn: the new world's cells by their places among the rest and the callee's -/
theorem x_WV (C : Ck k own cc ret d mc ms post) (B : Cw k) {Cn : String} {T : u_T} {N b ci : Nat} {fs : List Value} {wc' : va_W} (hM : CW (kl k) y (.code y bytes maxL rt) d0 (kg k) (.ref b :: As) wc r wc') (gw : GoodIn BIG (wsV own index Cn y (wB (.code y bytes maxL rt)))) (hy : okV y n maxL) (hyc : y.cls = Cn) (hdd : d0 + 1 ≤ d) (q0 : Nat) (he : w[q0]? = some (b, .inr (ci, fs))) (hcl : vwCl[ci]? = some (Cn, T, N)) (is iR pn : List Nat) (wn : va_W) (hnd : va_nd is = true) (hs : is.map (fun i => w[i]?) = wc.map some) (hsR : iR.map (fun i => w[i]?) = (pick w iR).map some) (hnR : va_nd iR = true) (hdis : ∀ i ∈ iR, i ∉ is) (hnp : va_nd pn = true) (hpn : pn.map (fun i => (pick w iR ++ wc')[i]?) = wn.map some) (hn : As.length = n) (hcat : (st.map fun v => v.category).sum ≤ 8) (hcs : cs ≤ mc) (hsl : sl ≤ ms) (hst : st' = As.reverse ++ .ref b :: st) (hd : decode cc pc = .ok (.invokevirtual index, 3)) (hp : pc + 3 = pc') (hr : r.toList ++ st = st2) (kk : X k cs sl wn pc' L st2) : X k cs sl w pc L st' :=
  x_wV C B hM gw hy hyc hdd q0 he hcl is iR hnd hs hsR hnR hdis hn hcat hcs hsl hst hd hp (fun v u hv => by rw [hv.1, hv.2, hr]; exact x_perm pn hnp hpn kk)
theorem x_WS (C : Ck k own cc ret d mc ms post) (B : Cw k) {wc' : va_W} (hM : CW (kl k) y (.code y bytes maxL rt) d0 (kg k) As wc r wc') (gw : GoodIn BIG (va_wsS own index y (wB (.code y bytes maxL rt)))) (hy : okV y n maxL) (hdd : d0 + 1 ≤ d) (is iR pn : List Nat) (wn : va_W) (hnd : va_nd is = true) (hs : is.map (fun i => w[i]?) = wc.map some) (hsR : iR.map (fun i => w[i]?) = (pick w iR).map some) (hnR : va_nd iR = true) (hdis : ∀ i ∈ iR, i ∉ is) (hnp : va_nd pn = true) (hpn : pn.map (fun i => (pick w iR ++ wc')[i]?) = wn.map some) (hn : As.length = n) (hcat : (st.map fun v => v.category).sum ≤ 8) (hcs : cs ≤ mc) (hsl : sl ≤ ms) (hst : st' = As.reverse ++ st) (hd : decode cc pc = .ok (.invokestatic index, 3)) (hp : pc + 3 = pc') (hr : r.toList ++ st = st2) (kk : X k cs sl wn pc' L st2) : X k cs sl w pc L st' :=
  x_wS C B hM gw hy hdd is iR hnd hs hsR hnR hdis hn hcat hcs hsl hst hd hp (fun v u hv => by rw [hv.1, hv.2, hr]; exact x_perm pn hnp hpn kk)
theorem x_objInit (C : Ck k own cc ret d mc ms post) {a : Nat} (h1 : Cond.methodLink own index objectInit ∈ BIG) (h2 : Cond.instanceMethod objectInit ∈ BIG) (h3 : Cond.code objectInit ⟨#[0xb1]⟩ 1 none ∈ BIG) (hdd : 1 ≤ d) (hcat : (st.map fun v => v.category).sum ≤ 8) (hd : decode cc pc = .ok (.invokespecial index, 3)) (hp : pc + 3 = pc') (kk : X k cs sl w pc' L st) : X k cs sl w pc L (.ref a :: st) := by
  intro H locs ls hP hD hS hl
  have hR := C.2.2.2.2.2.2.2.2.2.1
  exact W.objInit C.1 C.2.1 C.2.2.2.2.1 (C.2.2.2.2.2.1 _ h1) (C.2.2.2.2.2.1 _ h2) (C.2.2.2.2.2.1 _ h3) rfl (by rw [C.2.2.2.1]; exact hl.2.2.1) rfl hd (by rw [hR]; exact hdd) (by rw [hR]; show 2 * 0 + _ + 12 ≤ 36 * d + 12; omega) (hp ▸ kk H locs ls hP hD hS hl)
end CALLS
/-! helpers of the printed walks -/
def bind1 {α : Type} {β : Sort _} (x : α) (f : α → β) : β := f x
theorem bd {α β : Type} {R : β} {x : α} {f : α → β} (h : R = bind1 x f) (z : α) (e : z = x) : R = f z := e ▸ h
theorem bdP {α : Type} {x : α} {f : α → Prop} (h : bind1 x f) (z : α) (e : z = x) : f z := e ▸ h
theorem x_forget {k : KT} {cs sl : Nat} {w : va_W} {pc : Nat} {L L' : List (Option Value)} {st : List Value} (ps : List Nat) (h1 : L'.length = L.length) (h2 : lv_pick (lpairs 0 L) ps = lpairs 0 L') (kk : X k cs sl w pc L' st) : X k cs sl w pc L st := fun H locs ls hP hD hS hl => kk H locs ls hP hD hS ⟨h1.trans hl.1, fun v hv => by
  obtain ⟨i, hi⟩ := List.getElem?_of_mem hv
  have h3 : (i, v) ∈ lpairs 0 L' := lh_mem hi
  rw [← h2] at h3
  obtain ⟨j, -, hj⟩ := List.mem_filterMap.mp h3
  obtain ⟨-, h4⟩ := (lpairs_mem L 0 i v).mp (List.mem_of_getElem? hj)
  exact hl.2.1 v (List.mem_of_getElem? h4), lv_sub hl.2.2 ps h2⟩
/-- what a system's piece holds: its numbers and its rows, by the fields' places -/
abbrev CS : Type := (Nat → Int32) × (Nat → Nat → Int32)
def setI (S : CS) (j : Nat) (v : Int32) : CS := (upd S.1 j v, S.2)
def setF (S : CS) (j : Nat) (f : Nat → Int32) : CS := (S.1, va_up S.2 j f)
def dfCS : CS := (fun _ => 0, fun _ _ => 0)
def wAr (g : GT) (a n : Nat) (f : Nat → Int32) : va_W := [(a, .inl (gI g, (n, .inl f)))]
def wSt (g : GT) (h : Nat) (ad : Nat → Nat) (S : CS) : va_W := [(h, .inr (3, [.int (S.1 0), .int (S.1 1), .int (S.1 2), .ref (ad 3), .ref (ad 4), .ref (ad 5), .ref (ad 6), .int (S.1 7), .int (S.1 8), .int (S.1 9), .int (S.1 10), .int (S.1 11), .int (S.1 12)])), (ad 3, .inl (gI g, (24, .inl (S.2 3)))), (ad 4, .inl (gI g, (24, .inl (S.2 4)))), (ad 5, .inl (gI g, (24, .inl (S.2 5)))), (ad 6, .inl (gI g, (192, .inl (S.2 6))))]
def wRe (g : GT) (h : Nat) (ad : Nat → Nat) (S : CS) : va_W := [(h, .inr (2, [.int (S.1 0), .ref (ad 1), .ref (ad 2), .ref (ad 3)])), (ad 1, .inl (gI g, (24, .inl (S.2 1)))), (ad 2, .inl (gI g, (24, .inl (S.2 2)))), (ad 3, .inl (gI g, (24, .inl (S.2 3))))]
def wOr (g : GT) (h : Nat) (ad : Nat → Nat) (S : CS) : va_W := [(h, .inr (1, [.ref (ad 0), .int (S.1 1), .int (S.1 2), .int (S.1 3), .ref (ad 4), .ref (ad 5), .ref (ad 6), .ref (ad 7)])), (ad 0, .inl (gC g, (80, .inl (S.2 0)))), (ad 4, .inl (gI g, (16, .inl (S.2 4)))), (ad 5, .inl (gI g, (16, .inl (S.2 5)))), (ad 6, .inl (gI g, (16, .inl (S.2 6)))), (ad 7, .inl (gI g, (16, .inl (S.2 7))))]
/-- the class's own object; ad: where its parts lie -/
def wMa (h : Nat) (ad : Nat → Nat) (S : CS) : va_W := [(h, .inr (4, [.ref (ad 0), .ref (ad 1), .ref (ad 2), .int (S.1 3), .ref (ad 4), .ref (ad 5), .ref (ad 6), .int (S.1 7), .int (S.1 8), .int (S.1 9)]))]

def ushr (x y : Int32) : Int32 := (x.toUInt32 >>> (y.toUInt32 &&& Int32.toUInt32 31)).toInt32
/-- what is left of a division -/
def irem (x y : Int32) : Int32 := x - x / y * y
def imax (x y : Int32) : Int32 := if x < y then y else x
def imin (x y : Int32) : Int32 := if y < x then y else x
def i2c (x : Int32) : Int32 := (x.toUInt32 % 65536).toInt32
theorem bI_fit (b : Bool) : fits .boolean (.int (bI b)) = true := by cases b <;> rfl
theorem in_of {x : Int32} {n : Nat} (h1 : ¬ x < 0) (h2 : x < nI n) (hn : n < 2 ^ 31) : vp_in x n := by
  obtain ⟨j, hj, rfl⟩ := nI_of h1
  exact vp_in_nI ((nI_ltI hj hn).mp h2) hn
/-! the script, that nobody writes; what is left of a division -/
section OUT
variable {k : KT} {own : String} {cc : ByteArray} {ret : Option FieldType} {d mc ms : Nat} {post : Option Value → va_W → Prop} {cs sl : Nat} {w : va_W} {pc pc' : Nat} {L L' : List (Option Value)} {st st' st2 : List Value}
theorem x_scld (C : Ck k own cc ret d mc ms post) {j : Nat} (hj : j < gsL (kg k)) (hN : gsL (kg k) < 2 ^ 31) (hd : decode cc pc = .ok (.iaload, 1)) (hp : pc + 1 = pc') (kk : X k cs sl w pc' L (.int (gsX (kg k) j) :: st)) : X k cs sl w pc L (.int (nI j) :: .ref (gsB (kg k)) :: st) := by
  intro H locs ls hP hD hS hl
  obtain ⟨hX, hb, hbA⟩ := C.2.2.2.2.2.2.2.1.2.2
  obtain ⟨scr, h1, h2, h3, h4, h5⟩ := hX
  have e := nI_clamp (n := j) (by omega)
  exact W.iald (v := .int (gsX (kg k) j)) C.1 C.2.1 (by rw [(C.2.2.2.2.2.2.2.2.1 H locs hS).2 _ hb hbA]; exact h1) h2 h3 (by rw [h4]; exact vp_in_nI hj hN) (by rw [e]; exact h5 _ hj) rfl rfl hd (hp ▸ kk H locs ls hP hD hS hl)
theorem x_sclen (C : Ck k own cc ret d mc ms post) (hd : decode cc pc = .ok (.arraylength, 1)) (hp : pc + 1 = pc') (kk : X k cs sl w pc' L (.int (nI (gsL (kg k))) :: st)) : X k cs sl w pc L (.ref (gsB (kg k)) :: st) := by
  intro H locs ls hP hD hS hl
  obtain ⟨hX, hb, hbA⟩ := C.2.2.2.2.2.2.2.1.2.2
  obtain ⟨scr, h1, h2, h3, h4, h5⟩ := hX
  exact W.alen (n := Int32.ofNat (gsL (kg k))) C.1 C.2.1 (by rw [(C.2.2.2.2.2.2.2.2.1 H locs hS).2 _ hb hbA]; exact h1) h2 (by rw [h4] <;> rfl) rfl rfl hd (hp ▸ kk H locs ls hP hD hS hl)
theorem x_irem (C : Ck k own cc ret d mc ms post) {x y v : Int32} (hne : ¬ y = 0) (hd : decode cc pc = .ok (.irem, 1)) (hp : pc + 1 = pc') (hv : irem x y = v) (kk : X k cs sl w pc' L (.int v :: st)) : X k cs sl w pc L (.int y :: .int x :: st) := fun H locs ls hP hD hS hl => lv_irem C.1 C.2.1 hd hne (by
    have h : x - x / y * y = v := hv
    rw [h]
    exact hp ▸ kk H locs ls hP hD hS hl)
end OUT
/-! rows of references, copies of rows, the history's world -/
section ROWS6
variable {k : KT} {own : String} {cc : ByteArray} {ret : Option FieldType} {d mc ms : Nat} {post : Option Value → va_W → Prop} {cs sl : Nat} {w : va_W} {pc pc' : Nat} {L L' : List (Option Value)} {st st' st2 : List Value} {index : Nat}
theorem x_aaldN (C : Ck k own cc ret d mc ms post) {a n j : Nat} (q0 : Nat) {f : Nat → Option Nat} {v : Value} (he : w[q0]? = some (a, .inl (gQ (kg k), (n, .inr (.inr (.inr (.inr f))))))) (hj : j < n) (hn : n < 2 ^ 31) (hv : va_rf (f j) = v) (hd : decode cc pc = .ok (.aaload, 1)) (hp : pc + 1 = pc') (kk : X k cs sl w pc' L (v :: st)) : X k cs sl w pc L (.int (nI j) :: .ref a :: st) :=
  x_aald C q0 he (vp_in_nI hj hn) (by rw [nI_clamp (by omega)]; exact hv) hd hp kk
theorem x_aastN (C : Ck k own cc ret d mc ms post) (B : Cw k) {a n v j : Nat} (q0 qk : Nat) {vs : List Value} {f : Nat → Option Nat} {w' : va_W} (he : w[q0]? = some (a, .inl (gQ (kg k), (n, .inr (.inr (.inr (.inr f))))))) (hv : w[qk]? = some (v, .inr (3, vs))) (hj : j < n) (hn : n < 2 ^ 31) (hd : decode cc pc = .ok (.aastore, 1)) (hp : pc + 1 = pc') (hw : w.set q0 (a, .inl (gQ (kg k), (n, .inr (.inr (.inr (.inr (va_up f j (some v)))))))) = w') (kk : X k cs sl w' pc' L st) : X k cs sl w pc L (.ref v :: .int (nI j) :: .ref a :: st) :=
  x_aast C B q0 qk he hv (vp_in_nI hj hn) hd hp (by rw [nI_clamp (by omega)]; exact hw) kk
theorem x_acopy (C : Ck k own cc ret d mc ms post) (B : Cw k) {a0 a n0 n1 N : Nat} (q0 q1 : Nat) {f g : Nat → Int32} {w' : va_W} (h1 : Cond.methodLink own index arraycopyName ∈ BIG) (h2 : Cond.native arraycopyName ∈ BIG) (h3 : Cond.static arraycopyName ∈ BIG) (h4 : Cond.initialized "java/lang/System" ∈ BIG) (ha0 : w[q0]? = some (a0, .inl (gI (kg k), (n0, .inl f)))) (ha1 : w[q1]? = some (a, .inl (gI (kg k), (n1, .inl g)))) (hN0 : N ≤ n0) (hN1 : N ≤ n1) (hN : N < 2 ^ 31) (hdd : 1 ≤ d) (hst : (st.map fun v => v.category).sum ≤ 8) (hnf : nativeFrameWords "java/lang/System" "arraycopy" 5 + 19 ≤ 36) (hd : decode cc pc = .ok (.invokestatic index, 3)) (hp : pc + 3 = pc') (hw : w.set q1 (a, .inl (gI (kg k), (n1, .inl (va_cpy f g 0 0 N)))) = w') (kk : X k cs sl w' pc' L st) : X k cs sl w pc L (.int (nI N) :: .int 0 :: .ref a :: .int 0 :: .ref a0 :: st) := fun H locs ls hP hD hS hl => by
  have hR := C.2.2.2.2.2.2.2.2.2.1
  have e0 : (0 : Int32).toNatClampNeg = 0 := by decide
  refine va_copyi C.1 C.2.1 (by rw [C.2.2.2.1, hl.2.2.1]) C.2.2.2.2.1 (C.2.2.2.2.2.1 _ h1) (C.2.2.2.2.2.1 _ h2) (C.2.2.2.2.2.1 _ h3) (C.2.2.2.2.2.1 _ h4) C.2.2.2.2.2.2.2.1.1 hP hD (B.1 ▸ hS) q0 q1 0 0 ha0 ha1 rfl rfl rfl (by decide) (by decide) (nI_pos hN) (by rw [nI_clamp hN, e0]; omega) (by rw [nI_clamp hN, e0]; omega) (fun _ _ => rfl) (by rw [hR]; exact hdd) (by rw [hR]; show _ ≤ 36 * d + 12; omega) hd (fun H1 locs1 hP1 hD1 hS1 => ?_)
  rw [nI_clamp hN, e0] at hP1 hD1
  exact hp ▸ kk H1 locs1 ls (hw ▸ hP1) (hw ▸ hD1) (by rw [B.1]; exact hS1) hl
end ROWS6
def f_X3_copy (n1 : Nat) (f1 : Nat → Int32) (n2 : Nat) (f2 : Nat → Int32) : Nat → Int32 := va_cpy f1 f2 0 0 (if n2 < n1 then n2 else n1)
/-- the history: how many states, which of its objects stands at a place, what each object holds -/
abbrev HS : Type := (Int32 × (Nat → Nat)) × (Nat → CS)
def dfHS : HS := ((0, fun _ => 0), fun _ => dfCS)
def okH (Q : HS) : Prop := ∀ i, i < 4 → Q.1.2 i < 4
def wHf (g : GT) (h : Nat) (ad : Nat → Nat) (sz : Int32) (f : Nat → Option Nat) (T : Nat → CS) : va_W := [(h, .inr (0, [.ref (ad 0), .int sz])), (ad 0, .inl (gQ g, (4, .inr (.inr (.inr (.inr f))))))] ++ wSt g (ad 1) (fun x => ad (10 + x)) (T 0) ++ wSt g (ad 2) (fun x => ad (20 + x)) (T 1) ++ wSt g (ad 3) (fun x => ad (30 + x)) (T 2) ++ wSt g (ad 4) (fun x => ad (40 + x)) (T 3)
def rfH (ad p : Nat → Nat) : Nat → Option Nat := fun i => some (ad (1 + p i))
def wHi (g : GT) (h : Nat) (ad : Nat → Nat) (Q : HS) : va_W := wHf g h ad Q.1.1 (rfH ad Q.1.2) Q.2
def dropP (p : Nat → Nat) : Nat → Nat := va_up (va_up (va_up (va_up p 0 (p 1)) 1 (p 2)) 2 (p 3)) 3 (p 0)
def dropH (Q : HS) : HS := ((3, dropP Q.1.2), Q.2)
theorem rfH_drop (ad p : Nat → Nat) : va_up (va_up (va_up (va_up (rfH ad p) 0 (some (ad (1 + p 1)))) 1 (some (ad (1 + p 2)))) 2 (some (ad (1 + p 3)))) 3 (some (ad (1 + p 0))) = rfH ad (dropP p) := by
  funext i
  simp only [rfH, dropP, va_up]
  repeat' split
  all_goals rfl
theorem okH_drop {Q : HS} (h : okH Q) : okH (dropH Q) := by
  intro i hi
  show dropP Q.1.2 i < 4
  simp only [dropP, va_up]
  repeat' split
  · exact h 0 (by decide)
  · exact h 3 (by decide)
  · exact h 2 (by decide)
  · exact h 1 (by decide)
  · exact h i hi
theorem stPl (g : GT) (h : Nat) (ad : Nat → Nat) (sz : Int32) (f : Nat → Option Nat) (T : Nat → CS) (m : Nat) (hm : m < 4) : ∃ (qk : Nat) (vs : List Value), (wHf g h ad sz f T)[qk]? = some (ad (1 + m), .inr (3, vs)) := by
  match m, hm with
  | 0, _ => exact ⟨2, _, rfl⟩
  | 1, _ => exact ⟨7, _, rfl⟩
  | 2, _ => exact ⟨12, _, rfl⟩
  | 3, _ => exact ⟨17, _, rfl⟩
def atH (f : Nat → Option Nat) (x : Int32) : Option Nat := if x < 0 then none else if x < 4 then f x.toNatClampNeg else none
