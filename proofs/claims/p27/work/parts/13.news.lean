/-! making objects and rows; constructors; the law's own script -/
theorem W.mono {p : Program} {l : Launch} {e : Env} {R : Room} {s : State} {m : MethodId} {args : Array Value} {below : List Frame} {meth : Method} {c : Code} {H : Heap} {locs : List Loc} {cells slots : Nat} {Q Q' : State → Prop} {g : JFrame} (h : W p l e R s m args below meth c H locs cells slots Q g) (hq : ∀ t, Q t → Q' t) : W p l e R s m args below meth c H locs cells slots Q' g := fun T hT X => by
  obtain ⟨t, a, b⟩ := h T hT X
  exact ⟨t, a, hq t b⟩
theorem ac_int : Cond.arrayClass .int ∈ BIG := tb_1 73 rfl rfl
theorem ac_char : Cond.arrayClass .char ∈ BIG := tb_1 140 rfl rfl
section NEWS
variable {k : KT} {own : String} {cc : ByteArray} {ret : Option FieldType} {d mc ms : Nat} {post : Option Value → va_W → Prop} {cs sl : Nat} {w : va_W} {ws : List va_W} {pc pc' : Nat} {L L' : List (Option Value)} {st st' st2 : List Value}
variable {y : MethodName} {bytes : ByteArray} {maxL n d0 index : Nat} {rt : Option FieldType} {As : List Value} {wc : va_W} {r : Option Value}
theorem x_newI (C : Ck k own cc ret d mc ms post) (B : Cw k) {v : Int32} (N : Nat) (hv : v = nI N) (hN : N < 2 ^ 31) (hby : N * componentBytes .int ≤ 536870912) (hcs : cs + 1 ≤ mc) (hsl : sl + N ≤ ms) (hd : decode cc pc = .ok (.newarray .int, 2)) (hp : pc + 2 = pc') (kk : ∀ q : Nat, X k (cs + 1) (sl + N) (w ++ [(q, .inl (gI (kg k), (N, .inl (fun _ => 0))))]) pc' L (.ref q :: st)) : X k cs sl w pc L (.int v :: st) := by
  subst hv
  intro H locs ls hP hD hS hl
  have hR := C.2.2.2.2.2.2.2.2.2.1
  have hK := C.2.2.2.2.2.2.2.1.1
  refine va_newa C.1 C.2.1 (atype := .int) (ty := .int) (C.2.2.2.2.2.1 _ ac_int) rfl hK hP hD (B.1 ▸ hS) B.2 (N' := N) (a0 := (N, .inl (fun _ => 0))) (fun _ => by rw [vp_cell_i]; rfl) (nI_pos hN) (nI_clamp hN) hby (by rw [hR]; exact hcs) (by rw [hR]; exact hsl) hd (fun q cA H1 hK1 hP1 hD1 hS1 => ?_)
  have e : cA = gI (kg k) := Option.some.inj ((show (ks k).vm.findClass _ = some cA from (hK1.2 3 _ rfl).2).symm.trans (show (ks k).vm.findClass _ = some (gI (kg k)) from (hK.2 0 _ rfl).2))
  subst e
  exact hp ▸ kk q H1 locs ls hP1 hD1 (by rw [B.1]; exact hS1) hl
theorem x_newC (C : Ck k own cc ret d mc ms post) (B : Cw k) {v : Int32} (N : Nat) (hv : v = nI N) (hN : N < 2 ^ 31) (hby : N * componentBytes .char ≤ 536870912) (hcs : cs + 1 ≤ mc) (hsl : sl + N ≤ ms) (hd : decode cc pc = .ok (.newarray .char, 2)) (hp : pc + 2 = pc') (kk : ∀ q : Nat, X k (cs + 1) (sl + N) (w ++ [(q, .inl (gC (kg k), (N, .inl (fun _ => 0))))]) pc' L (.ref q :: st)) : X k cs sl w pc L (.int v :: st) := by
  subst hv
  intro H locs ls hP hD hS hl
  have hR := C.2.2.2.2.2.2.2.2.2.1
  have hK := C.2.2.2.2.2.2.2.1.1
  refine va_newa C.1 C.2.1 (atype := .char) (ty := .char) (C.2.2.2.2.2.1 _ ac_char) rfl hK hP hD (B.1 ▸ hS) B.2 (N' := N) (a0 := (N, .inl (fun _ => 0))) (fun _ => by rw [vp_cell_i]; rfl) (nI_pos hN) (nI_clamp hN) hby (by rw [hR]; exact hcs) (by rw [hR]; exact hsl) hd (fun q cA H1 hK1 hP1 hD1 hS1 => ?_)
  have e : cA = gC (kg k) := Option.some.inj ((show (ks k).vm.findClass _ = some cA from (hK1.2 3 _ rfl).2).symm.trans (show (ks k).vm.findClass _ = some (gC (kg k)) from (hK.2 1 _ rfl).2))
  subst e
  exact hp ▸ kk q H1 locs ls hP1 hD1 (by rw [B.1]; exact hS1) hl
theorem x_newQ (C : Ck k own cc ret d mc ms post) (B : Cw k) {v : Int32} (N : Nat) (hv : v = nI N) (hN : N < 2 ^ 31) (hby : N * 4 ≤ 536870912) (hcl : Cond.classLink own index "RootedDeltas$State" ∈ BIG) (hcs : cs + 1 ≤ mc) (hsl : sl + N ≤ ms) (hd : decode cc pc = .ok (.anewarray index, 3)) (hp : pc + 3 = pc') (kk : ∀ q : Nat, X k (cs + 1) (sl + N) (w ++ [(q, .inl (gQ (kg k), (N, .inr (.inr (.inr (.inr (fun _ => none)))))))]) pc' L (.ref q :: st)) : X k cs sl w pc L (.int v :: st) := by
  subst hv
  intro H locs ls hP hD hS hl
  have hR := C.2.2.2.2.2.2.2.2.2.1
  have hK := C.2.2.2.2.2.2.2.1.1
  refine va_newq C.1 C.2.1 C.2.2.2.2.1 (C.2.2.2.2.2.1 _ hcl) C.2.2.2.2.2.2.2.1.2.1 hK hP hD (B.1 ▸ hS) B.2 (N' := N) (nI_pos hN) (nI_clamp hN) hby (by rw [hR]; exact hcs) (by rw [hR]; exact hsl) hd (fun q cA H1 hK1 hP1 hD1 hS1 => ?_)
  have e : cA = gQ (kg k) := by
    obtain ⟨_, _, _, _, _, h1⟩ := (hK1.2 3 _ rfl).2
    obtain ⟨_, _, _, _, _, h2⟩ := (hK.2 2 _ rfl).2
    exact Option.some.inj (h1.symm.trans h2)
  subst e
  exact hp ▸ kk q H1 locs ls hP1 hD1 (by rw [B.1]; exact hS1) hl
theorem x_new (C : Ck k own cc ret d mc ms post) (B : Cw k) {Cn : String} {T : u_T} {N : Nat} (ci : Nat) (fs : List Value) (hin : ∀ w ∈ u_ws Cn T N, w ∈ BIG) (ty : Nat → FieldType) (hty : ∀ k, k < N → parseFieldDescriptor (T k).2.2.1 = some (ty k)) (hcl : Cond.classLink own index Cn ∈ BIG) (hinst : Cond.instantiable Cn N ∈ BIG) (hini : Cond.initialized Cn ∈ BIG) (hc : vwCl[ci]? = some (Cn, T, N)) (hfs : ∀ j, j < N → defaultValue (ty j) = vp_V fs j) (hcs : cs + 1 ≤ mc) (hsl : sl + N ≤ ms) (hd : decode cc pc = .ok (.new index, 3)) (hp : pc + 3 = pc') (kk : ∀ q : Nat, X k (cs + 1) (sl + N) (w ++ [(q, .inr (ci, fs))]) pc' L (.ref q :: st)) : X k cs sl w pc L st := by
  intro H locs ls hP hD hS hl
  have hR := C.2.2.2.2.2.2.2.2.2.1
  have hK := C.2.2.2.2.2.2.2.1.1
  exact va_new C.1 C.2.1 C.2.2.2.2.2.1 hin ty hty C.2.2.2.2.1 (C.2.2.2.2.2.1 _ hcl) (C.2.2.2.2.2.1 _ hinst) (C.2.2.2.2.2.1 _ hini) hK hP hD (B.1 ▸ hS) B.2 hc hfs (by rw [hR]; exact hcs) (by rw [hR]; exact hsl) hd (fun q H1 hP1 hD1 hS1 => hp ▸ kk q H1 locs ls hP1 hD1 (by rw [B.1]; exact hS1) hl)
theorem x_catnew (C : Ck k own cc ret d mc ms post) (B : Cw k) {Cn : String} {T : u_T} {N : Nat} (ci : Nat) (fs : List Value) (hin : ∀ w ∈ u_ws Cn T N, w ∈ BIG) (ty : Nat → FieldType) (hty : ∀ k, k < N → parseFieldDescriptor (T k).2.2.1 = some (ty k)) (hcl : Cond.classLink own index Cn ∈ BIG) (hinst : Cond.instantiable Cn N ∈ BIG) (hini : Cond.initialized Cn ∈ BIG) (hc : vwCl[ci]? = some (Cn, T, N)) (hfs : ∀ j, j < N → defaultValue (ty j) = vp_V fs j) (hcs : cs + 1 ≤ mc) (hsl : sl + N ≤ ms) (hd : decode cc pc = .ok (.new index, 3)) (hp : pc + 3 = pc') (kk : ∀ q : Nat, X k (cs + 1) (sl + N) (cat (ws ++ [[(q, .inr (ci, fs))]])) pc' L (.ref q :: st)) : X k cs sl (cat ws) pc L st :=
  x_new C B ci fs hin ty hty hcl hinst hini hc hfs hcs hsl hd hp (fun q => by
    have h := kk q
    rw [cat_app] at h
    exact h)
/-- a final field in a constructor -/
theorem x_putF (C : Ck k own cc ret d mc ms post) (B : Cw k) (hini : (kme k).name = "<init>") {ref Cn : String} {T : u_T} {N ci a : Nat} (q0 kf : Nat) {fs : List Value} {v : Value} {ty : FieldType} {w' : va_W} (hin : ∀ w ∈ u_ws Cn T N, w ∈ BIG) (ty0 : Nat → FieldType) (hty : ∀ k, k < N → parseFieldDescriptor (T k).2.2.1 = some (ty0 k)) (hnm : ∀ a, a < N → ∀ b, b < N → a ≠ b → (T a).2.1 ≠ (T b).2.1) (he : w[q0]? = some (a, .inr (ci, fs))) (hc : vwCl[ci]? = some (Cn, T, N)) (hk : kf < N) (hlink : Cond.fieldLink own index ref (T kf).2.1 (T kf).2.2.1 ∈ BIG) (href : (T kf).1 = ref) (hfin : (T kf).2.2.2 = true) (hdecl : (T kf).1 = own) (hdt : ty0 kf = ty) (hn : narrow ty v = v) (hfit : fits ty v = true) (hl0 : kf < fs.length) (hd : decode cc pc = .ok (.putfield index, 3)) (hp : pc + 3 = pc') (hw : w.set q0 (a, .inr (ci, fs.set kf v)) = w') (kk : X k cs sl w' pc' L st) : X k cs sl w pc L (v :: .ref a :: st) := fun H locs ls hP hD hS hl =>
  va_putF C.1 C.2.1 C.2.2.2.2.2.1 hin ty0 hty hnm C.2.2.2.2.1 C.2.2.2.2.2.2.2.1.1 hP hD (B.1 ▸ hS) q0 he hc kf hk (C.2.2.2.2.2.1 _ hlink) (by rw [href]; exact fun _ h => h) hfin hini hdecl (by rw [← hdt]; exact hty kf hk) hn hfit hl0 hd (fun H1 locs1 hP1 hD1 hS1 => hp ▸ kk H1 locs1 ls (hw ▸ hP1) (hw ▸ hD1) (by rw [B.1]; exact hS1) hl)
/-- a constructor's call: the new object's piece becomes what the constructor says -/
theorem x_catWI (C : Ck k own cc ret d mc ms post) (B : Cw k) {b mc0 ms0 : Nat} {wcs wrs : List va_W} {postw : Option Value → va_W → Prop} (hM : CWx (kl k) y (.code y bytes maxL none) d0 mc0 ms0 (kg k) (.ref b :: As) wc postw) (hc : cat wcs = wc) (gw : GoodIn BIG (wB (.code y bytes maxL none))) (h1 : Cond.methodLink own index y ∈ BIG) (h2 : Cond.instanceMethod y ∈ BIG) (h3 : Cond.initialized y.cls ∈ BIG) (hy1 : y.name = "<init>") (hy : okV y n maxL) (hdd : d0 + 1 ≤ d) (is : List Nat) (hnd : va_nd is = true) (hs : is.map (fun i => ws[i]?) = (wrs ++ wcs).map some) (hn : As.length = n) (hcat : (st.map fun v => v.category).sum ≤ 8) (hcs : cs + mc0 ≤ mc) (hsl : sl + ms0 ≤ ms) (hst : st' = As.reverse ++ .ref b :: st) (hd : decode cc pc = .ok (.invokespecial index, 3)) (hp : pc + 3 = pc') (kk : ∀ (v : Option Value) (u : va_W), postw v u → X k (cs + mc0) (sl + ms0) (cat (wrs ++ [u])) pc' L (v.toList ++ st)) : X k cs sl (cat ws) pc L st' := by
  subst hc
  intro H locs ls hP hD hS hl
  have hR := C.2.2.2.2.2.2.2.2.2.1
  have hP0 := cat_P hP is hs
  have hD0 := cat_D hD is hnd hs
  rw [cat_app] at hP0 hD0
  obtain ⟨hDr, hDc, hdis⟩ := D_app hD0
  have hPr : va_P (kg k).1 vwCl (cat wrs) H := P_mem.mpr (fun x hx => P_mem.mp hP0 x (List.mem_append_left _ hx))
  have hPc : va_P (kg k).1 vwCl (cat wcs) H := P_mem.mpr (fun x hx => P_mem.mp hP0 x (List.mem_append_right _ hx))
  have hS' : va_S (kA k) (ks k).heap H locs := B.1 ▸ hS
  have hF : ∀ q, va_A (cat wcs) H.size q → kA k q := by
    rintro q (⟨j, e, h⟩ | h)
    · exact hDc.2 j (q, e) h
    · exact B.2 q (Nat.le_trans hS'.1 h)
  have h1' := C.2.2.2.2.2.2.2.2.1 H locs hS
  have hr' := va_runI (meth := kme k) (n := n) (nL := kn k) (own := own) (Ts := BIG) (rest := st) (As := As) (locs := locs) (cells := cs) (slots := sl) (below := kbe k) (e := ke k) (l := kl k) (R := kR k) (b := b) (H := H) (g := F0 (km k) pc ls st') (S := ⟨C.1, C.2.1, C.2.2.2.1, C.2.2.2.2.1, C.2.2.2.2.2.1⟩) (hM H.size) (cwI n C.2.2.2.2.2.1 gw rfl rfl rfl (C.2.2.2.2.2.1 _ h3) (C.2.2.2.2.2.1 _ h1) (C.2.2.2.2.2.1 _ h2) hy1 ⟨hy.1, hy.2.1, hy.2.2.1⟩ (by rw [hR]; exact room_le hdd hy.2.2.2)) ⟨fb_W, fun U hU hW => ⟨rfl, by rw [hU], by rw [hU]; exact hPc, hDc.weaken (fun _ _ _ _ => trivial), by rw [hU]; exact (((C.2.2.2.2.2.2.2.1.kept h1'.2).narrow hF).warm hW)⟩⟩ rfl hn hl.2.2.1 hst (lv_room hcat) hd ⟨by rw [hR]; exact hcs, by rw [hR]; exact hsl⟩
  intro T0 hT X0
  obtain ⟨v, st₀, t, T', L1, h0, X', hL, e1, e2, ⟨⟨v', u, hv, hpv, hP1, hD1⟩, hz, hk⟩, go⟩ := hr' T0 hT X0
  cases hv
  rw [h0] at hz hk
  obtain ⟨hP2, hD2⟩ := joinA (H1 := t.heap) hPr hDr hdis hk hF hP1 hD1
  have hS2 : va_S (kA k) (ks k).heap t.heap (locs ++ L1) := ⟨Nat.le_trans hS'.1 hz, fun q h1 h2 => by
      rw [hk q (Nat.lt_of_lt_of_le h1 hS'.1) (fun z => h2 (hF q z))]
      exact hS'.2.1 q h1 h2, fun q hq => by
      rcases List.mem_append.mp hq with h | h
      · exact hS'.2.2 q h
      · exact hF _ (hL q h)⟩
  have e3 : cat (wrs ++ [u]) = cat wrs ++ u := by rw [cat_app]; show _ ++ (u ++ []) = _; rw [List.append_nil]
  obtain ⟨t2, a1, b1⟩ := kk v u hpv t.heap (locs ++ L1) ls (by rw [e3]; exact hP2) (by rw [e3]; exact hD2) (by rw [B.1]; exact hS2) hl T' e1 X'
  refine ⟨t2, go t2 ?_, b1⟩
  rw [hp]
  exact a1
end NEWS
