/-! worlds of pieces: a world is a row of pieces; calls name pieces, not cells -/
def cat : List va_W → va_W
  | [] => []
  | w :: ws => w ++ cat ws
theorem cat_app : ∀ (a b : List va_W), cat (a ++ b) = cat a ++ cat b
  | [], b => rfl
  | w :: a, b => by show w ++ cat (a ++ b) = (w ++ cat a) ++ cat b; rw [cat_app a b, List.append_assoc]
theorem cat_mem : ∀ {ws : List va_W} {x : Nat × va_E}, x ∈ cat ws ↔ ∃ w ∈ ws, x ∈ w
  | [], x => by simp [cat]
  | w :: ws, x => by
    rw [cat, List.mem_append, cat_mem (ws := ws)]
    simp
theorem P_mem {D : va_G} {cl : List vw_C} {w : va_W} {H : Heap} : va_P D cl w H ↔ ∀ x ∈ w, va_at D cl x H := by
  constructor
  · intro h x hx
    obtain ⟨i, hi⟩ := List.getElem?_of_mem hx
    exact h i x hi
  · intro h k q hq
    exact h q (List.mem_of_getElem? hq)
/-- apart, as a row -/
theorem D_pair {A : Nat → Prop} {w : va_W} : va_D A w ↔ w.Pairwise (fun p q => p.1 ≠ q.1) ∧ ∀ x ∈ w, A x.1 := by
  constructor
  · intro h
    refine ⟨List.pairwise_iff_getElem.mpr (fun i j hi hj hij e => ?_), fun x hx => ?_⟩
    · have := h.1 i j w[i] w[j] (List.getElem?_eq_getElem hi) (List.getElem?_eq_getElem hj) e
      omega
    · obtain ⟨i, hi⟩ := List.getElem?_of_mem hx
      exact h.2 i x hi
  · rintro ⟨h1, h2⟩
    refine ⟨fun i j p q hp hq e => ?_, fun k q hq => h2 q (List.mem_of_getElem? hq)⟩
    obtain ⟨hi, rfl⟩ := List.getElem?_eq_some_iff.mp hp
    obtain ⟨hj, rfl⟩ := List.getElem?_eq_some_iff.mp hq
    have h3 := List.pairwise_iff_getElem.mp h1
    rcases Nat.lt_trichotomy i j with q | q | q
    · exact absurd e (h3 i j hi hj q)
    · exact q
    · exact absurd e.symm (h3 j i hj hi q)
theorem cat_pair {R : Nat × va_E → Nat × va_E → Prop} : ∀ {ws : List va_W}, (cat ws).Pairwise R ↔ (∀ w ∈ ws, w.Pairwise R) ∧ ws.Pairwise (fun a b => ∀ x ∈ a, ∀ y ∈ b, R x y)
  | [] => by simp [cat]
  | w :: ws => by
    rw [cat, List.pairwise_append, cat_pair (ws := ws), List.pairwise_cons]
    constructor
    · rintro ⟨h1, ⟨h2, h3⟩, h4⟩
      refine ⟨fun u hu => ?_, fun b hb x hx y hy => h4 x hx y (cat_mem.mpr ⟨b, hb, hy⟩), h3⟩
      rcases List.mem_cons.mp hu with rfl | hu
      · exact h1
      · exact h2 u hu
    · rintro ⟨h1, h2, h3⟩
      refine ⟨h1 w List.mem_cons_self, ⟨fun u hu => h1 u (List.mem_cons_of_mem _ hu), h3⟩, fun x hx y hy => ?_⟩
      obtain ⟨b, hb, hy⟩ := cat_mem.mp hy
      exact h2 b hb x hx y hy
theorem map_pick {ws us : List va_W} {is : List Nat} (hs : is.map (fun i => ws[i]?) = us.map some) (j : Nat) (u : va_W) (hu : us[j]? = some u) : ∃ i, is[j]? = some i ∧ ws[i]? = some u := by
  have h1 : (is.map (fun i => ws[i]?))[j]? = some (some u) := by rw [hs, List.getElem?_map, hu]; rfl
  rw [List.getElem?_map] at h1
  cases hi : is[j]? with
  | none => rw [hi] at h1; cases h1
  | some i => rw [hi] at h1; exact ⟨i, rfl, Option.some.inj h1⟩
theorem cat_P {D : va_G} {cl : List vw_C} {ws us : List va_W} {H : Heap} (h : va_P D cl (cat ws) H) (is : List Nat) (hs : is.map (fun i => ws[i]?) = us.map some) : va_P D cl (cat us) H := by
  rw [P_mem] at h ⊢
  intro x hx
  obtain ⟨u, hu, hx⟩ := cat_mem.mp hx
  obtain ⟨j, hj⟩ := List.getElem?_of_mem hu
  obtain ⟨i, -, hi⟩ := map_pick hs j u hj
  exact h x (cat_mem.mpr ⟨u, List.mem_of_getElem? hi, hx⟩)
theorem cat_D {A : Nat → Prop} {ws us : List va_W} (h : va_D A (cat ws)) (is : List Nat) (hn : va_nd is = true) (hs : is.map (fun i => ws[i]?) = us.map some) : va_D A (cat us) := by
  rw [D_pair, cat_pair] at h ⊢
  obtain ⟨⟨h1, h2⟩, h3⟩ := h
  refine ⟨⟨fun u hu => ?_, ?_⟩, fun x hx => ?_⟩
  · obtain ⟨j, hj⟩ := List.getElem?_of_mem hu
    obtain ⟨i, -, hi⟩ := map_pick hs j u hj
    exact h1 u (List.mem_of_getElem? hi)
  · refine List.pairwise_iff_getElem.mpr (fun a b ha hb hab x hx y hy => ?_)
    obtain ⟨i, hi1, hi2⟩ := map_pick hs a us[a] (List.getElem?_eq_getElem ha)
    obtain ⟨j, hj1, hj2⟩ := map_pick hs b us[b] (List.getElem?_eq_getElem hb)
    obtain ⟨hi, ei⟩ := List.getElem?_eq_some_iff.mp hi2
    obtain ⟨hj, ej⟩ := List.getElem?_eq_some_iff.mp hj2
    have hne : i ≠ j := fun e => by
      subst e
      have := va_nd_inj is hn a b i hi1 hj1
      omega
    have h4 := List.pairwise_iff_getElem.mp h2
    rw [← ei] at hx
    rw [← ej] at hy
    rcases Nat.lt_or_ge i j with q | q
    · exact h4 i j hi hj q x hx y hy
    · exact fun e => h4 j i hj hi (by omega) y hy x hx e.symm
  · obtain ⟨u, hu, hx⟩ := cat_mem.mp hx
    obtain ⟨j, hj⟩ := List.getElem?_of_mem hu
    obtain ⟨i, -, hi⟩ := map_pick hs j u hj
    exact h3 x (cat_mem.mpr ⟨u, List.mem_of_getElem? hi, hx⟩)
theorem D_app {A : Nat → Prop} {a b : va_W} (h : va_D A (a ++ b)) : va_D A a ∧ va_D A b ∧ ∀ x ∈ a, ∀ y ∈ b, x.1 ≠ y.1 := by
  rw [D_pair, List.pairwise_append] at h
  obtain ⟨⟨h1, h2, h3⟩, h4⟩ := h
  exact ⟨D_pair.mpr ⟨h1, fun x hx => h4 x (List.mem_append_left _ hx)⟩, D_pair.mpr ⟨h2, fun x hx => h4 x (List.mem_append_right _ hx)⟩, h3⟩
theorem joinA {A0 : Nat → Prop} {D : va_G} {cl : List vw_C} {wr wc w1 : va_W} {H H1 : Heap} (hP : va_P D cl wr H) (hD : va_D A0 wr) (hdis : ∀ x ∈ wr, ∀ y ∈ wc, x.1 ≠ y.1) (hk : ∀ q : Nat, q < H.size → ¬ va_A wc H.size q → H1[q]? = H[q]?) (hF : ∀ q, va_A wc H.size q → A0 q) (hP1 : va_P D cl w1 H1) (hD1 : va_D (va_A wc H.size) w1) : va_P D cl (wr ++ w1) H1 ∧ va_D A0 (wr ++ w1) := by
  have apart : ∀ x ∈ wr, x.1 < H.size ∧ ¬ va_A wc H.size x.1 := by
    intro x hx
    have hl := (P_mem.mp hP x hx).lt
    refine ⟨hl, fun h => ?_⟩
    rcases h with ⟨k2, e, h⟩ | h
    · exact hdis x hx (x.1, e) (List.mem_of_getElem? h) rfl
    · omega
  refine ⟨va_P.app (fun k q hq => ?_) hP1, va_D.app hD (hD1.weaken (fun k q _ h => hF q.1 h)) (fun i j x y hx hy hxy => ?_)⟩
  · obtain ⟨g1, g2⟩ := apart q (List.mem_of_getElem? hq)
    exact (hP k q hq).kept (hk q.1 g1 g2)
  · exact (apart x (List.mem_of_getElem? hx)).2 (by rw [hxy]; exact hD1.2 j y hy)
section CATS
variable {k : KT} {own : String} {cc : ByteArray} {ret : Option FieldType} {d mc ms : Nat} {post : Option Value → va_W → Prop} {cs sl : Nat} {ws : List va_W} {pc pc' : Nat} {L L' : List (Option Value)} {st st' st2 : List Value}
variable {y : MethodName} {bytes : ByteArray} {maxL n d0 index : Nat} {rt : Option FieldType} {As : List Value} {wc : va_W} {r : Option Value}
theorem x_catRV (C : Ck k own cc ret d mc ms post) {Cn : String} {T : u_T} {N b ci : Nat} {fs : List Value} {wcs : List va_W} (hM : CR (kl k) y (.code y bytes maxL rt) d0 (kg k) (.ref b :: As) wc r) (hc : cat wcs = wc) (gw : GoodIn BIG (wsV own index Cn y (wB (.code y bytes maxL rt)))) (hy : okV y n maxL) (hyc : y.cls = Cn) (hdd : d0 + 1 ≤ d) (he : wc[0]? = some (b, .inr (ci, fs))) (hcl : vwCl[ci]? = some (Cn, T, N)) (is : List Nat) (hnd : va_nd is = true) (hs : is.map (fun i => ws[i]?) = wcs.map some) (hn : As.length = n) (hcat : (st.map fun v => v.category).sum ≤ 8) (hcs : cs ≤ mc) (hsl : sl ≤ ms) (hst : st' = As.reverse ++ .ref b :: st) (hd : decode cc pc = .ok (.invokevirtual index, 3)) (hp : pc + 3 = pc') (hr : r.toList ++ st = st2) (kk : X k cs sl (cat ws) pc' L st2) : X k cs sl (cat ws) pc L st' := by
  subst hc
  intro H locs ls hP hD hS hl
  have hR := C.2.2.2.2.2.2.2.2.2.1
  have hP1 := cat_P hP is hs
  have hD1 := cat_D hD is hnd hs
  refine x_backR (postr := fun v => v = r) hP hD hS hl (W.runV (C := Cn) (n := n) (nL := kn k) (own := own) (Ts := BIG) (rest := st) (As := As) (mc := 0) (ms := 0) ⟨C.1, C.2.1, C.2.2.2.1, C.2.2.2.2.1, C.2.2.2.2.2.1⟩ hM (cwV n C.2.2.2.2.2.1 gw rfl rfl rfl ⟨hyc, hy.1, hy.2.1, hy.2.2.1⟩ (by rw [hR]; exact room_le hdd hy.2.2.2)) ⟨fb_R, va_recv C.2.2.2.2.2.2.2.1.1 hP1 hcl he, fun U hU hW => ⟨rfl, ?_⟩⟩ rfl hn hl.2.2.1 hst (lv_room hcat) hd ⟨by rw [hR]; exact hcs, by rw [hR]; exact hsl⟩) (fun _ _ _ q => q) (fun v hv => by rw [hv, hr]; exact hp ▸ kk)
  have h1 := C.2.2.2.2.2.2.2.2.1 H locs hS
  have hG := (((C.2.2.2.2.2.2.2.1.kept h1.2).narrow (fun q (hq : wA (cat wcs) q) => by
    obtain ⟨j, e, h⟩ := hq
    exact hD1.2 j (q, e) h)).warm hW)
  exact ⟨by rw [hU]; exact hP1, hD1.weaken (fun _ _ _ _ => trivial), by rw [hU]; exact hG⟩
theorem x_catWV (C : Ck k own cc ret d mc ms post) (B : Cw k) {Cn : String} {T : u_T} {N b ci : Nat} {fs : List Value} {wc' : va_W} {wcs wrs wcs' : List va_W} (wsn : List va_W) (hM : CW (kl k) y (.code y bytes maxL rt) d0 (kg k) (.ref b :: As) wc r wc') (hc : cat wcs = wc) (hc' : wc' = cat wcs') (gw : GoodIn BIG (wsV own index Cn y (wB (.code y bytes maxL rt)))) (hy : okV y n maxL) (hyc : y.cls = Cn) (hdd : d0 + 1 ≤ d) (he : wc[0]? = some (b, .inr (ci, fs))) (hcl : vwCl[ci]? = some (Cn, T, N)) (is pn : List Nat) (hnd : va_nd is = true) (hs : is.map (fun i => ws[i]?) = (wrs ++ wcs).map some) (hnp : va_nd pn = true) (hpn : pn.map (fun i => (wrs ++ wcs')[i]?) = wsn.map some) (hn : As.length = n) (hcat : (st.map fun v => v.category).sum ≤ 8) (hcs : cs ≤ mc) (hsl : sl ≤ ms) (hst : st' = As.reverse ++ .ref b :: st) (hd : decode cc pc = .ok (.invokevirtual index, 3)) (hp : pc + 3 = pc') (hr : r.toList ++ st = st2) (kk : X k cs sl (cat wsn) pc' L st2) : X k cs sl (cat ws) pc L st' := by
  subst hc; subst hc'
  intro H locs ls hP hD hS hl
  have hR := C.2.2.2.2.2.2.2.2.2.1
  have hP0 := cat_P hP is hs
  have hD0 := cat_D hD is hnd hs
  rw [cat_app] at hP0 hD0
  obtain ⟨hDr, hDc, hdis⟩ := D_app hD0
  have hPr : va_P (kg k).1 vwCl (cat wrs) H := P_mem.mpr (fun x hx => P_mem.mp hP0 x (List.mem_append_left _ hx))
  have hPc : va_P (kg k).1 vwCl (cat wcs) H := P_mem.mpr (fun x hx => P_mem.mp hP0 x (List.mem_append_right _ hx))
  have hS' : va_S (kA k) (ks k).heap H locs := B.1 ▸ hS
  have hF : ∀ q, va_A (cat wcs) H.size q → kA k q := by
    rintro q (⟨j, e, h⟩ | h)
    · exact hDc.2 j (q, e) h
    · exact B.2 q (Nat.le_trans hS'.1 h)
  have h1 := C.2.2.2.2.2.2.2.2.1 H locs hS
  have hr' : va_Run (kp k) (kl k) (ke k) (kR k) (ks k) (km k) (kar k) (kbe k) (kme k) (kc k) H locs cs sl 0 0 (F0 (km k) pc ls st') st (QW (kg k) (cat wcs) H.size (fun v u => v = r ∧ u = cat wcs') (Value.ref b :: As).toArray) (va_A (cat wcs) H.size) :=
    va_runV (C := Cn) (n := n) (nL := kn k) (own := own) (Ts := BIG) (rest := st) (As := As) ⟨C.1, C.2.1, C.2.2.2.1, C.2.2.2.2.1, C.2.2.2.2.2.1⟩ (hM H.size) (cwV n C.2.2.2.2.2.1 gw rfl rfl rfl ⟨hyc, hy.1, hy.2.1, hy.2.2.1⟩ (by rw [hR]; exact room_le hdd hy.2.2.2)) ⟨fb_W, va_recv C.2.2.2.2.2.2.2.1.1 hPc hcl he, fun U hU hW => ⟨rfl, by rw [hU], by rw [hU]; exact hPc, hDc.weaken (fun _ _ _ _ => trivial), by rw [hU]; exact (((C.2.2.2.2.2.2.2.1.kept h1.2).narrow hF).warm hW)⟩⟩ rfl hn hl.2.2.1 hst (lv_room hcat) hd ⟨by rw [hR]; exact hcs, by rw [hR]; exact hsl⟩
  intro T0 hT X0
  obtain ⟨v, st₀, t, T', L1, h0, X', hL, e1, e2, ⟨⟨v', u, hv, ⟨hpv, hpu⟩, hP1, hD1⟩, hz, hk⟩, go⟩ := hr' T0 hT X0
  cases hv
  subst hpu
  rw [h0] at hz hk
  obtain ⟨hP2, hD2⟩ := joinA (H1 := t.heap) hPr hDr hdis hk hF hP1 hD1
  rw [← cat_app] at hP2 hD2
  have hS2 : va_S (kA k) (ks k).heap t.heap (locs ++ L1) := ⟨Nat.le_trans hS'.1 hz, fun q h1 h2 => by
      rw [hk q (Nat.lt_of_lt_of_le h1 hS'.1) (fun z => h2 (hF q z))]
      exact hS'.2.1 q h1 h2, fun q hq => by
      rcases List.mem_append.mp hq with h | h
      · exact hS'.2.2 q h
      · exact hF _ (hL q h)⟩
  obtain ⟨t2, a1, b1⟩ := kk t.heap (locs ++ L1) ls (cat_P hP2 pn hpn) (cat_D hD2 pn hnp hpn) (by rw [B.1]; exact hS2) hl T' e1 X'
  refine ⟨t2, go t2 ?_, b1⟩
  rw [hpv, hr, hp]
  exact a1
theorem x_catRS (C : Ck k own cc ret d mc ms post) {wcs : List va_W} (hM : CR (kl k) y (.code y bytes maxL rt) d0 (kg k) As wc r) (hc : cat wcs = wc) (gw : GoodIn BIG (va_wsS own index y (wB (.code y bytes maxL rt)))) (hy : okV y n maxL) (hdd : d0 + 1 ≤ d) (is : List Nat) (hnd : va_nd is = true) (hs : is.map (fun i => ws[i]?) = wcs.map some) (hn : As.length = n) (hcat : (st.map fun v => v.category).sum ≤ 8) (hcs : cs ≤ mc) (hsl : sl ≤ ms) (hst : st' = As.reverse ++ st) (hd : decode cc pc = .ok (.invokestatic index, 3)) (hp : pc + 3 = pc') (hr : r.toList ++ st = st2) (kk : X k cs sl (cat ws) pc' L st2) : X k cs sl (cat ws) pc L st' := by
  subst hc
  intro H locs ls hP hD hS hl
  have hR := C.2.2.2.2.2.2.2.2.2.1
  have hP1 := cat_P hP is hs
  have hD1 := cat_D hD is hnd hs
  refine x_backR (postr := fun v => v = r) hP hD hS hl (W.runS (n := n) (nL := kn k) (own := own) (Ts := BIG) (rest := st) (As := As) (mc := 0) (ms := 0) ⟨C.1, C.2.1, C.2.2.2.1, C.2.2.2.2.1, C.2.2.2.2.2.1⟩ hM (va_cwS n C.2.2.2.2.2.1 gw rfl rfl rfl ⟨hy.1, hy.2.1, hy.2.2.1⟩ (by rw [hR]; exact room_le hdd hy.2.2.2)) ⟨fb_R, fun U hU hW => ⟨rfl, ?_⟩⟩ rfl hn hl.2.2.1 hst (lv_room hcat) hd ⟨by rw [hR]; exact hcs, by rw [hR]; exact hsl⟩) (fun _ _ _ q => q) (fun v hv => by rw [hv, hr]; exact hp ▸ kk)
  have h1 := C.2.2.2.2.2.2.2.2.1 H locs hS
  have hG := (((C.2.2.2.2.2.2.2.1.kept h1.2).narrow (fun q (hq : wA (cat wcs) q) => by
    obtain ⟨j, e, h⟩ := hq
    exact hD1.2 j (q, e) h)).warm hW)
  exact ⟨by rw [hU]; exact hP1, hD1.weaken (fun _ _ _ _ => trivial), by rw [hU]; exact hG⟩
theorem x_catWS (C : Ck k own cc ret d mc ms post) (B : Cw k) {wc' : va_W} {wcs wrs wcs' : List va_W} (wsn : List va_W) (hM : CW (kl k) y (.code y bytes maxL rt) d0 (kg k) As wc r wc') (hc : cat wcs = wc) (hc' : wc' = cat wcs') (gw : GoodIn BIG (va_wsS own index y (wB (.code y bytes maxL rt)))) (hy : okV y n maxL) (hdd : d0 + 1 ≤ d) (is pn : List Nat) (hnd : va_nd is = true) (hs : is.map (fun i => ws[i]?) = (wrs ++ wcs).map some) (hnp : va_nd pn = true) (hpn : pn.map (fun i => (wrs ++ wcs')[i]?) = wsn.map some) (hn : As.length = n) (hcat : (st.map fun v => v.category).sum ≤ 8) (hcs : cs ≤ mc) (hsl : sl ≤ ms) (hst : st' = As.reverse ++ st) (hd : decode cc pc = .ok (.invokestatic index, 3)) (hp : pc + 3 = pc') (hr : r.toList ++ st = st2) (kk : X k cs sl (cat wsn) pc' L st2) : X k cs sl (cat ws) pc L st' := by
  subst hc; subst hc'
  intro H locs ls hP hD hS hl
  have hR := C.2.2.2.2.2.2.2.2.2.1
  have hP0 := cat_P hP is hs
  have hD0 := cat_D hD is hnd hs
  rw [cat_app] at hP0 hD0
  obtain ⟨hDr, hDc, hdis⟩ := D_app hD0
  have hPr : va_P (kg k).1 vwCl (cat wrs) H := P_mem.mpr (fun x hx => P_mem.mp hP0 x (List.mem_append_left _ hx))
  have hPc : va_P (kg k).1 vwCl (cat wcs) H := P_mem.mpr (fun x hx => P_mem.mp hP0 x (List.mem_append_right _ hx))
  have hS' : va_S (kA k) (ks k).heap H locs := B.1 ▸ hS
  have hF : ∀ q, va_A (cat wcs) H.size q → kA k q := by
    rintro q (⟨j, e, h⟩ | h)
    · exact hDc.2 j (q, e) h
    · exact B.2 q (Nat.le_trans hS'.1 h)
  have h1 := C.2.2.2.2.2.2.2.2.1 H locs hS
  have hr' : va_Run (kp k) (kl k) (ke k) (kR k) (ks k) (km k) (kar k) (kbe k) (kme k) (kc k) H locs cs sl 0 0 (F0 (km k) pc ls st') st (QW (kg k) (cat wcs) H.size (fun v u => v = r ∧ u = cat wcs') As.toArray) (va_A (cat wcs) H.size) :=
    va_runS (n := n) (nL := kn k) (own := own) (Ts := BIG) (rest := st) (As := As) ⟨C.1, C.2.1, C.2.2.2.1, C.2.2.2.2.1, C.2.2.2.2.2.1⟩ (hM H.size) (va_cwS n C.2.2.2.2.2.1 gw rfl rfl rfl ⟨hy.1, hy.2.1, hy.2.2.1⟩ (by rw [hR]; exact room_le hdd hy.2.2.2)) ⟨fb_W, fun U hU hW => ⟨rfl, by rw [hU], by rw [hU]; exact hPc, hDc.weaken (fun _ _ _ _ => trivial), by rw [hU]; exact (((C.2.2.2.2.2.2.2.1.kept h1.2).narrow hF).warm hW)⟩⟩ rfl hn hl.2.2.1 hst (lv_room hcat) hd ⟨by rw [hR]; exact hcs, by rw [hR]; exact hsl⟩
  intro T0 hT X0
  obtain ⟨v, st₀, t, T', L1, h0, X', hL, e1, e2, ⟨⟨v', u, hv, ⟨hpv, hpu⟩, hP1, hD1⟩, hz, hk⟩, go⟩ := hr' T0 hT X0
  cases hv
  subst hpu
  rw [h0] at hz hk
  obtain ⟨hP2, hD2⟩ := joinA (H1 := t.heap) hPr hDr hdis hk hF hP1 hD1
  rw [← cat_app] at hP2 hD2
  have hS2 : va_S (kA k) (ks k).heap t.heap (locs ++ L1) := ⟨Nat.le_trans hS'.1 hz, fun q h1 h2 => by
      rw [hk q (Nat.lt_of_lt_of_le h1 hS'.1) (fun z => h2 (hF q z))]
      exact hS'.2.1 q h1 h2, fun q hq => by
      rcases List.mem_append.mp hq with h | h
      · exact hS'.2.2 q h
      · exact hF _ (hL q h)⟩
  obtain ⟨t2, a1, b1⟩ := kk t.heap (locs ++ L1) ls (cat_P hP2 pn hpn) (cat_D hD2 pn hnp hpn) (by rw [B.1]; exact hS2) hl T' e1 X'
  refine ⟨t2, go t2 ?_, b1⟩
  rw [hpv, hr, hp]
  exact a1
end CATS
