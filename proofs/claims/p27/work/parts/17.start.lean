/-! THE CLAIM OUT OF ONE WALK OF THE LAW'S BODY. Your part is whole_start (and what it stands on); all else here is the same for every law, but numbers. -/
def R_law : String := "RootedDeltasLaw"
def lw_P (b : Addr) (xs : List Int32) (args : Array Value) (s : State) : Prop := args = #[.ref b] ∧ s.IntsAt b xs ∧ xs.length ≤ 260 ∧ (Jvm.Cond.and given_1 narrow_1).before args s = true
def lw_Q (_ : Array Value) (s : State) (o : Outcome) (t : State) : Prop := o = .returned (some (.int 1)) ∧ Framed s o t [] 600000 7302250
def lw_Z (below : List Frame) (a : Array Value) (s : State) : State → Prop := fun t => ∃ o, t.status = .running ∧ Ended t below o ∧ lw_Q a s o t
/-- the law's own end, with 1 on the stack, nothing written that was there before, its room as the claim has it -/
theorem lw_ret {p : Program} {l : Launch} {e : Env} {s : State} {m : MethodId} {below : List Frame} {meth : Method} {c : Code} {b : Nat} (hx : p.tables.exec = Jvm.exec) (hb : c.code = code) (hr : meth.sig.returnType = ret) (hlocks : meth.locks = false) {pc : Nat} {H : Heap} {ls : Array Slot} (hdg : decode code pc = .ok (.ireturn, 1)) : W p l e room_1 s m #[Value.ref b] below meth c H [] 600000 7302250 (lw_Z below #[Value.ref b] s) (F0 m pc ls [.int 1]) := by
  intro T hT X
  obtain ⟨fs, hret, hrun, hended, hW, hframe⟩ := X.leave (v := some (.int 1)) (hlocks := hlocks) (fun h => by rw [hr] at h; cases h)
  have hmeth' : T.vm.method? m = some meth := X.method'
  refine ⟨T.setFrames fs, ?_, .returned (some (.int 1)), hrun, hended, rfl, ⟨_, rfl⟩, hW, hframe⟩
  jvm_step X.here [X.here.top, hx, hb, hdg, hmeth', hr, ret, narrow_b1]
  (try refine ⟨rfl, ?_⟩); (try refine ⟨rfl, ?_⟩)
  first | (intro acts; rw [hret _ acts rfl rfl rfl]) | rw [hret _ _ rfl rfl rfl]
  exact Steps.refl _
/-- what holds at the law's entry: the machine, the code, the tables' words (any of lw_tbl by 'hts w (by decide +kernel)'), the script of L ints xs at the cell b, what the Statement gives of the start (any of its parts by flat_of_before) -/
def lw_At (p : Program) (s : State) (m : MethodId) (meth : Method) (c : Code) (b L : Nat) (xs : Nat → Int32) : Prop :=
  p.tables.exec = Jvm.exec ∧ c.code = code ∧ meth.sig.returnType = ret ∧ c.maxLocals = 6 ∧ s.vm.findClass R_law = some m.cls ∧ (∀ w ∈ lw_tbl, w.before #[Value.ref b] s = true) ∧ va_X b L xs s s.heap ∧ b < s.heap.size ∧ meth.locks = false ∧ (Jvm.Cond.and given_1 narrow_1).before #[Value.ref b] s = true
-- ===== YOUR PART BEGINS =====
theorem ml_L_74 : Cond.methodLink RL 74 yX6_init ∈ BIG := tb_1 13 rfl rfl
theorem x_eqat {k : KT} {cs sl : Nat} {w w' : va_W} {pc : Nat} {L : List (Option Value)} {st : List Value} (i : Nat) {a : Nat} {e e' : va_E} (he : w[i]? = some (a, e)) (hq : ∀ (D : va_G) (H : Heap), va_at D vwCl (a, e) H → va_at D vwCl (a, e') H) (hw : w.set i (a, e') = w') (kk : X k cs sl w' pc L st) : X k cs sl w pc L st := fun H locs ls hP hD hS hl => by
  subst hw
  refine kk H locs ls ?_ (va_D.set hD he) hS hl
  intro j q hj
  rw [List.getElem?_set] at hj
  by_cases h : i = j
  · subst h
    rw [if_pos rfl] at hj
    split at hj
    · cases hj
      exact hq _ H (hP i _ he)
    · cases hj
  · rw [if_neg h] at hj
    exact hP j q hj
theorem row_congr {D : va_G} {cA : ClassId} {a n : Nat} {f f' : Nat → Option Nat} {H : Heap} (h : ∀ i, i < n → f i = f' i) (hq : va_at D vwCl (a, .inl (cA, (n, .inr (.inr (.inr (.inr f)))))) H) : va_at D vwCl (a, .inl (cA, (n, .inr (.inr (.inr (.inr f')))))) H := by
  have e : vp_cell cA (n, .inr (.inr (.inr (.inr f)))) = vp_cell cA (n, .inr (.inr (.inr (.inr f')))) := by
    show arrV cA n (fun j => va_rf (f j)) = arrV cA n (fun j => va_rf (f' j))
    unfold arrV
    congr 1
    apply Array.ext
    · simp
    · intro i h1 h2
      simp at h1 h2 ⊢
      rw [h i h1]
  show H[a]? = _
  rw [← e]
  exact hq
theorem known_of {s : State} {args : Array Value} (hts : ∀ w ∈ lw_tbl, w.before args s = true) {C : String} {T : u_T} {N n : Nat} (hin : ∀ w ∈ u_ws C T N, w ∈ BIG) (hi : Cond.instantiable C n ∈ BIG) : ∃ q : ClassId × (Nat → Nat), u_Kn s C T N q.1 q.2 := by
  obtain ⟨cC, iS, h⟩ := u_known (ws := BIG) (fun w hw => hts w (big_tbl hw)) hin (hts _ (big_tbl hi))
  exact ⟨(cC, iS), h⟩
theorem arr_of {s : State} {args : Array Value} {ty : FieldType} (h : (Cond.arrayClass ty).before args s = true) : ∃ c, ArrOfT s c ty ∧ s.vm.findClass ("[" ++ ty.toString) = some c := by
  obtain ⟨c, kA, comp, h1, h2, h3⟩ := Cond.arrayClass_spec h
  exact ⟨c, fun n z => ⟨fun k h => (by cases h), kA, h2, comp, h3⟩, h1⟩
set_option maxRecDepth 100000 in
set_option maxHeartbeats 8000000 in
theorem law_start (k : KT) (C : Ck k RL cL_law (some .boolean) 10 600000 7302250 (fun v _ => v = some (.int 1))) (B : Cw k) (hL : gsL (kg k) ≤ 260) : X k 0 0 (cat []) 0 [some (.ref (gsB (kg k))), none, none, none, none, none] [] := by
  refine x_catnew (pc' := 3) C B 4 [.null, .null, .null, .int 0, .null, .null, .null, .int 0, .int 0, .int 0] inBX6 tyX6 tyX6_ok cl_L_15 ia_X6 in_X6 rfl (fun j hj => by rcases (show j = 0 ∨ j = 1 ∨ j = 2 ∨ j = 3 ∨ j = 4 ∨ j = 5 ∨ j = 6 ∨ j = 7 ∨ j = 8 ∨ j = 9 by omega) with rfl | rfl | rfl | rfl | rfl | rfl | rfl | rfl | rfl | rfl <;> rfl) (by decide) (by decide) dL_law_0 rfl (fun h => ?_)
  refine x_loc (w' := cat [[(h, .inr (4, [.null, .null, .null, .int 0, .null, .null, .null, .int 0, .int 0, .int 0]))]]) rfl ?_
  refine x_dup (pc' := 4) C dL_law_3 rfl rfl ?_
  refine x_catWI (st := [.ref h]) (pc' := 7) (wcs := [[(h, .inr (4, [.null, .null, .null, .int 0, .null, .null, .null, .int 0, .int 0, .int 0]))]]) (wrs := []) C B (c_X6_init (kl k) (kg k) h) rfl (gB co_X6_init) ml_L_74 im_X6_init in_X6 rfl ok_X6_init (by decide) [0] rfl rfl rfl (Nat.le_of_ble_eq_true rfl) (by decide) (by decide) rfl dL_law_4 rfl (fun v u hv => ?_)
  obtain ⟨rfl, ad, ad0, ad1, ad2, ad3, ad4, ad5, rfl⟩ := hv
  refine x_loc (w' := cat [wMa h ad initZ, wSt (kg k) (ad 0) ad0 initSt, wSt (kg k) (ad 1) ad1 initSt, wSt (kg k) (ad 2) ad2 initSt, wHi0 (kg k) (ad 4) ad3, wRe (kg k) (ad 5) ad4 initZ, wOr (kg k) (ad 6) ad5 initZ]) (List.append_nil _) ?_
  refine x_eqat (w' := cat [wMa h ad initZ, wSt (kg k) (ad 0) ad0 initSt, wSt (kg k) (ad 1) ad1 initSt, wSt (kg k) (ad 2) ad2 initSt, wHi (kg k) (ad 4) ad3 initHS, wRe (kg k) (ad 5) ad4 initZ, wOr (kg k) (ad 6) ad5 initZ]) (a := ad3 0) (e := .inl (gQ (kg k), (4, .inr (.inr (.inr (.inr (rfH4 ad3))))))) (e' := .inl (gQ (kg k), (4, .inr (.inr (.inr (.inr (rfH ad3 (fun i => i)))))))) 17 rfl (fun D H hq => row_congr (fun i hi => by show (if i < 4 then _ else _) = _; rw [if_pos hi]; rfl) hq) rfl ?_
  refine x_astore_n (pc' := 8) (L' := [some (.ref (gsB (kg k))), some (.ref h), none, none, none, none]) C dL_law_7 rfl rfl (Nat.le_of_ble_eq_true rfl) rfl ?_
  refine x_iconst (v := nI 0) (pc' := 9) C dL_law_8 rfl (by decide) ?_
  refine x_istore_n (pc' := 10) (L' := [some (.ref (gsB (kg k))), some (.ref h), some (.int (nI 0)), none, none, none]) C dL_law_9 rfl rfl (Nat.le_of_ble_eq_true rfl) rfl ?_
  exact law_loop C B (by decide) (by decide) hL initZ initSt initZ 55 0 (by decide) (by decide) initSt initSt initHS initZ none none none gq_init
theorem gs_start {s : State} {b L : Nat} {xs : Nat → Int32} (hts : ∀ w ∈ lw_tbl, w.before #[Value.ref b] s = true) (hX : va_X b L xs s s.heap) (hbl : b < s.heap.size) : ∃ g : GT, gsB g = b ∧ gsL g = L ∧ GS g (fun q => s.heap.size ≤ q) s s.heap := by
  have t1 : ∀ (i : Nat) (w : Cond), tables_1_1[i]? = some w → w.before #[Value.ref b] s = true := fun i w h => hts w (List.mem_append_right _ (List.mem_append_left _ (List.mem_of_getElem? h)))
  obtain ⟨q0, k0⟩ := known_of hts inBX0 ia_X0
  obtain ⟨q1, k1⟩ := known_of hts inBX1 ia_X1
  obtain ⟨q2, k2⟩ := known_of hts inBX2 ia_X2
  obtain ⟨q3, k3⟩ := known_of hts inBX5 ia_X5
  obtain ⟨q4, k4⟩ := known_of hts inBX6 ia_X6
  obtain ⟨cI, i1, i2⟩ := arr_of (t1 73 _ rfl)
  obtain ⟨cC, i3, i4⟩ := arr_of (t1 140 _ rfl)
  have hao := t1 81 _ rfl
  obtain ⟨comp, cQ, kQ, j1, -, j2, j3, j4⟩ := Cond.arrayOver_spec hao
  refine ⟨((fun c => if c = 0 then q0.1 else if c = 1 then q1.1 else if c = 2 then q2.1 else if c = 3 then q3.1 else q4.1, fun c => if c = 0 then q0.2 else if c = 1 then q1.2 else if c = 2 then q2.2 else if c = 3 then q3.2 else q4.2), cI, cC, cQ, b, L, xs), rfl, rfl, ⟨?_, ?_⟩, va_AO.of hao, hX, hbl, Nat.not_le.mpr hbl⟩
  · intro c q hq
    match c, hq with
    | 0, h => cases h; exact k0
    | 1, h => cases h; exact k1
    | 2, h => cases h; exact k2
    | 3, h => cases h; exact k3
    | 4, h => cases h; exact k4
  · intro c q hq
    match c, hq with
    | 0, h => cases h; exact ⟨i1, i2⟩
    | 1, h => cases h; exact ⟨i3, i4⟩
    | 2, h => cases h; exact ⟨fun n z => ⟨fun k h => (by cases h), kQ, j2, comp, j3⟩, kQ, comp, j2, j3, j1, j4⟩
theorem whole_start {p : Program} {e : Env} {s : State} {m : MethodId} {below : List Frame} {meth : Method} {c : Code} (l : Launch) (hflags : l.flags = flags0) {b L : Nat} {xs : Nat → Int32} (hL : L ≤ 260) (C0 : lw_At p s m meth c b L xs) : W p l e room_1 s m #[Value.ref b] below meth c s.heap [] 0 0 (lw_Z below #[Value.ref b] s) (entryFrame m ([Value.ref b] : List Value).toArray 6) := by
  obtain ⟨hx, hb, hr, hml, hown, hts, hX, hbl, hlocks, hgv⟩ := C0
  obtain ⟨g, rfl, rfl, hG⟩ := gs_start hts hX hbl
  have key := law_start (p, l, e, room_1, s, m, #[.ref (gsB g)], below, meth, c, g, (fun q => s.heap.size ≤ q), va_S (fun q => s.heap.size ≤ q) s.heap, MQ below (fun _ _ o _ => o = .returned (some (.int 1))) #[.ref (gsB g)] s 600000 7302250 (fun q => s.heap.size ≤ q), 6) ⟨hx, hb, hr, hml, hown, fun w hw => hts w (big_tbl hw), hlocks, hG, fun H locs hS => ⟨hS.1, hS.2.1⟩, rfl, (fun _ _ o _ => o = .returned (some (.int 1))), (fun q => s.heap.size ≤ q), rfl, fun H locs hS q hq => hS.2.2 q hq, fun H locs v w t hP hD hS hpost ht hW => congrArg Outcome.returned hpost⟩ ⟨rfl, fun q hq => hq⟩ hL
  refine W.mono ?_ ?_ (Q := MQ below (fun _ _ o _ => o = .returned (some (.int 1))) #[.ref (gsB g)] s 600000 7302250 (fun q => s.heap.size ≤ q))
  · rw [lg_entry_eq]
    exact key s.heap [] _ (fun k q h => (by cases h)) ⟨fun i j p q h => (by cases h), fun k q h => (by cases h)⟩ va_S.rf (lh_entry [.ref (gsB g)] 6 (List.forall_mem_cons.mpr ⟨rfl, fun _ h => absurd h List.not_mem_nil⟩) (Nat.le_of_ble_eq_true rfl))
  · rintro t ⟨o, h1, h2, h3, L, ⟨h4, h5, h6⟩, h7⟩
    refine ⟨o, h1, h2, h3, h4, h5, h6.1, h6.2.1, h6.2.2.1, h6.2.2.2.1, h6.2.2.2.2.1, fun a c hc => ?_⟩
    obtain ⟨c', q1, q2, q3, q4⟩ := h6.2.2.2.2.2 a c hc
    refine ⟨c', q1, q2, q3, fun i _ => q4 i (fun hm => ?_)⟩
    exact absurd (h7 _ hm) (Nat.not_le.mpr (Array.getElem?_eq_some_iff.mp hc).1)
-- ===== YOUR PART ENDS =====
set_option maxHeartbeats 4000000 in
theorem lw_walk (l : Launch) (hflags : l.flags = flags0) (b : Addr) (xs : List Int32) : MetFree l x (headSpec (Jvm.Cond.code x code maxLocals ret :: tables_1) room_1) (lw_P b xs) (fun _ _ _ _ _ => True) lw_Q := by
  refine MetFree.of_bodyS (code := code) (maxLocals := maxLocals) (ret := ret) (by decide) ?_ ?_
  · intro args s m h hn
    obtain ⟨meth, c, h1, h2, h3, h4, h5, h6, -, -⟩ := Cond.code_spec hn (atoms_spec (ws := Jvm.Cond.code x code maxLocals ret :: tables_1) h _ List.mem_cons_self)
    exact ⟨meth, c, h1, h2, h3, h4, h5, h6⟩
  · intro p e s m args below meth c s₁ B hml0 hP _
    obtain ⟨rfl, hx, hbd, hgv⟩ := hP
    obtain ⟨scr, harrAt, hlist, hof, hsmall⟩ := hx
    obtain ⟨hcb, hkn, -, -⟩ := State.arrayAt?_spec harrAt
    have hown : s.vm.findClass R_law = some m.cls := findClass_of_methodNamed B.named
    have hts0 : ∀ c ∈ (Jvm.Cond.code x code maxLocals ret :: tables_1), c.before #[Value.ref b] s = true := atoms_spec (ws := Jvm.Cond.code x code maxLocals ret :: tables_1) B.pre
    have hts : ∀ w ∈ lw_tbl, w.before #[Value.ref b] s = true := k2_hts_sels lw_privs (fun w hw => hts0 w (List.mem_cons_of_mem _ hw)) lw_privs_ok
    have hml : c.maxLocals = 6 := B.maxLocals_eq (hts0 _ List.mem_cons_self)
    have X₀ : Stand p l e room_1 s m #[Value.ref b] below meth c s₁ [] 0 0 := Stand.of_body B
    have hh0 : s₁.heap = s.heap := by rw [B.state]; rfl
    have hsz : scr.slots.size = xs.length := by rw [← Array.length_toList, hlist, List.length_map]
    have hval : ∀ j : Nat, j < xs.length → scr.slots[j]? = some (.int (xs.getD j 0)) := fun j hj => by
      rw [← Array.getElem?_toList, hlist]
      simp [hj]
    have hbl : b < s.heap.size := (Array.getElem?_eq_some_iff.mp hcb).1
    have hX : va_X b xs.length (fun j => xs.getD j 0) s s.heap := ⟨scr, hcb, hof, hkn, hsz, hval⟩
    have K : W p l e room_1 s m #[Value.ref b] below meth c s₁.heap [] 0 0 (lw_Z below #[Value.ref b] s) (entryFrame m ([Value.ref b] : List Value).toArray 6) := by
      rw [hh0]
      exact whole_start l hflags hbd ⟨B.exec, B.bytes, B.returns, hml, hown, hts, hX, hbl, B.notSynchronized, hgv⟩
    obtain ⟨t, a1, o, b1, b2, b3⟩ := K s₁ rfl X₀
    exact ⟨t, o, a1, b1, b2, b3⟩
theorem lw_pre_spec {args : Array Value} {s : State} (h : (Jvm.Cond.and given_1 narrow_1).before args s = true) (hr : rest_1_c.before args s = true) : ∃ (b : Addr) (xs : List Int32), lw_P b xs args s := by
  have hs := flat_of_before _ h
  have hq := flat_of_before _ hr
  have hc : (Cond.count 1).before args s = true := hs _ (by decide +kernel)
  have harr : (Cond.arrayOf (.arg 0) .int).before args s = true := hs _ (by decide +kernel)
  have hle : (Cond.le (.length (.arg 0)) (.int 260)).before args s = true := hs _ (by decide +kernel)
  have hlen : (Cond.isInt (.length (.arg 0))).before args s = true := hq _ (by decide +kernel)
  have hall : (Cond.all (.arg 0) (.isInt (.elem (.arg 0) (.index 0)))).before args s = true := hq _ (by decide +kernel)
  obtain ⟨b, xs, hb, hx⟩ := State.ints_of_pre rfl harr hlen hall
  have hsm : xs.length < 2 ^ 31 := hx.choose_spec.2.2.2
  have hev : (Term.length (.arg 0)).eval args s none [] s = some (.int xs.length.toInt32) := hx.length_eval hb
  have hv := Cond.le_ints hev (show (Term.int 260).eval args s none [] s = some (.int 260) from rfl)
  have hd : xs.length.toInt32 ≤ 260 := by
    simpa [Cond.before, Cond.holds, hv] using hle
  have hN : xs.length ≤ 260 := (Int32.ofNat_le_ofNat hsm (by decide)).mp (show Int32.ofNat xs.length ≤ Int32.ofNat 260 from hd)
  exact ⟨b, xs, Cond.one_arg hc (show args[0]? = some (.ref b) from hb), hx, hN, h⟩
theorem lw_comes (l : Launch) (hflags : l.flags = flags0) : Comes l x (Jvm.Cond.code x code maxLocals ret :: tables_1) room_1 (fun tb e args s => Calls_1 tb e args s ∧ rest_1 tb e args s ∧ Pre_1 tb e args s)
    (fun _ _ args s o t => lw_Q args s o t) := by
  intro p e ha hc hk s m args below hf hfit hheap happ hpre
  obtain ⟨b, xs, hP⟩ := lw_pre_spec hpre.2.2 hpre.2.1
  obtain ⟨k, o, h1, h2, h3, hQ⟩ := lw_walk l hflags b xs p e ha hc hk s m args below hf ((Spec.applies_iff_loose hf).mp happ).1 hP trivial
  exact ⟨k, o, h1, h2, h3, hQ⟩
theorem lw_frame {s t : State} {o : Outcome} {args : Array Value} (h : Framed s o t [] 600000 7302250) :
    Framed s o t (fieldLocs frame_1_writes args s ++ arrayLocs frame_1_arrays args s ++ staticLocs frame_1_statics s) 600000 7302250 := h
theorem lw_limb (L : Cond) (hL : ∀ (args : Array Value) (s t : State), L.after args s (.returned (some (.int 1))) t = true) :
    ArmFor flags0 classFile x code maxLocals ret World_1 tables_1 room_1 Calls_1 rest_1 Pre_1
      (fun tb e a s o t => postC L tb e a s o t ∧ Framed s o t (fieldLocs frame_1_writes a s ++ arrayLocs frame_1_arrays a s ++ staticLocs frame_1_statics s) 600000 7302250) := by
  intro l hflags _ _ p e ha hc hk s m args below hf hfit hheap happ hpre
  obtain ⟨k, o, h1, h2, h3, rfl, hF⟩ := lw_comes l hflags p e ha hc hk s m args below hf hfit hheap happ hpre
  exact ⟨k, _, h1, h2, h3, hL args s _, lw_frame hF⟩
theorem i_vc : Claimed_1_1 ∧ Claimed_1_2 := ⟨lw_limb limb_1_1 (fun args s t => by simp [limb_1_1, Cond.after, Cond.holds, Cond.value]), lw_limb limb_1_2 (fun args s t => Cond.after_iff.mpr (by
  first | (rw [show limb_1_2 = Cond.eq .result (.int 1) from rfl, Cond.eq_ints (x := 1) (y := 1) rfl rfl]; simp; done) | (simp [limb_1_2, Cond.value, Term.eval]; done)))⟩
