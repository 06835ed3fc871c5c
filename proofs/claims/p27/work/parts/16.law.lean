/-- a turn's number: the script's, or what stands for it behind its end -/
def cel (g : GT) (j : Nat) : Int32 := if j < gsL g then gsX g j else (7919 * (nI j + 3)) * (nI j + 11)
set_option maxRecDepth 100000 in
set_option maxHeartbeats 8000000 in
theorem c_L_cell (l : Launch) (g : GT) (j : Nat) (hj : j < 54) (hL : gsL g ≤ 260) : CR l yL_cell (.code yL_cell cL_cell 2 (some .int)) 0 g [.ref (gsB g), .int (nI j)] [] (some (.int (cel g j))) := by
  refine CRx.of (nL := 2) (ret := (some .int)) (own := RL) (cc := cL_cell) rfl (by decide) rfl (List.forall_mem_cons.mpr ⟨rfl, (List.forall_mem_cons.mpr ⟨rfl, (fun _ h => absurd h List.not_mem_nil)⟩)⟩) (Nat.le_of_ble_eq_true rfl) ?_
  intro k C hkl hkg
  subst hkl; subst hkg
  refine x_loc2 (L' := [some (.ref (gsB (kg k))), some (.int (nI j))]) rfl ?_

  refine x_iload_n (pc' := 1) C dL_cell_0 rfl rfl rfl ?_
  refine x_aload_n (pc' := 2) C dL_cell_1 rfl rfl rfl ?_
  refine x_sclen (pc' := 3) C dL_cell_2 rfl ?_
  refine x_icmpN_ge (tgt := 12) (pc' := 6) C j (gsL (kg k)) dL_cell_3 (by decide) rfl (by omega) (by omega) (fun c => ?_) (fun c => ?_)
  · refine x_sipush (v := 7919) (pc' := 15) C dL_cell_12 rfl (by decide) ?_
    refine x_iload_n (pc' := 16) C dL_cell_15 rfl rfl rfl ?_
    refine x_iconst (v := 3) (pc' := 17) C dL_cell_16 rfl (by decide) ?_
    refine x_iadd (v := nI j + 3) (pc' := 18) C dL_cell_17 rfl rfl ?_
    refine x_imul (v := 7919 * (nI j + 3)) (pc' := 19) C dL_cell_18 rfl rfl ?_
    refine x_iload_n (pc' := 20) C dL_cell_19 rfl rfl rfl ?_
    refine x_bipush (v := 11) (pc' := 22) C dL_cell_20 rfl (by decide) ?_
    refine x_iadd (v := nI j + 11) (pc' := 23) C dL_cell_22 rfl rfl ?_
    refine x_imul (v := (7919 * (nI j + 3)) * (nI j + 11)) (pc' := 24) C dL_cell_23 rfl rfl ?_
    exact x_iret C (Nat.zero_le _) (Nat.zero_le _) dL_cell_24 (by rw [cel, if_neg c])
  · refine x_aload_n (pc' := 7) C dL_cell_6 rfl rfl rfl ?_
    refine x_iload_n (pc' := 8) C dL_cell_7 rfl rfl rfl ?_
    refine x_scld (j := j) (pc' := 9) C (by omega) (by omega) dL_cell_8 rfl ?_
    refine x_goto (tgt := 24) C dL_cell_9 (by decide) ?_
    exact x_iret C (Nat.zero_le _) (Nat.zero_le _) dL_cell_24 (by rw [cel, if_pos (by omega)])
set_option maxRecDepth 100000 in
set_option maxHeartbeats 8000000 in
theorem law_loop {k : KT} {cs sl : Nat} (C : Ck k RL cL_law (some .boolean) 10 600000 7302250 (fun v _ => v = some (.int 1))) (B : Cw k) (hcs : cs ≤ 600000) (hsl : sl ≤ 7302250) (hL : gsL (kg k) ≤ 260) {h : Nat} {ad adN adF adP adQ adE adO : Nat → Nat} (M P O : CS) : ∀ (n i : Nat), i ≤ 54 → 54 < i + n → ∀ (N F : CS) (Q : HS) (E : CS) (L3 L4 L5 : Option Value), GQ N Q i → X k cs sl (cat [wMa h ad M, wSt (kg k) (ad 0) adN N, wSt (kg k) (ad 1) adF F, wSt (kg k) (ad 2) adP P, wHi (kg k) (ad 4) adQ Q, wRe (kg k) (ad 5) adE E, wOr (kg k) (ad 6) adO O]) 10 [some (.ref (gsB (kg k))), some (.ref h), some (.int (nI i)), L3, L4, L5] [] := by
  intro n
  induction n with
  | zero => intro i h1 h2; omega
  | succ n ih =>
    intro i hi1 hf N F Q E L3 L4 L5 hg
    refine x_iload_n (pc' := 11) C dL_law_10 rfl rfl rfl ?_
    refine x_bipush (v := nI 54) (pc' := 13) C dL_law_11 rfl (by decide) ?_
    refine x_icmpN_ge (tgt := 113) (pc' := 16) C i 54 dL_law_13 (by decide) rfl (by omega) (by decide) (fun c => ?_) (fun c => ?_)
    · refine x_iconst (v := 1) (pc' := 114) C dL_law_113 rfl (by decide) ?_
      exact x_zret (b := true) C hcs hsl dL_law_114 rfl
    have hi5 : i < 54 := by omega
    have k107 : ∀ (N F : CS) (Q : HS) (E : CS) (v got a : Int32), GQ N Q (i + 1) → X k cs sl (cat [wMa h ad M, wSt (kg k) (ad 0) adN N, wSt (kg k) (ad 1) adF F, wSt (kg k) (ad 2) adP P, wHi (kg k) (ad 4) adQ Q, wRe (kg k) (ad 5) adE E, wOr (kg k) (ad 6) adO O]) 107 [some (.ref (gsB (kg k))), some (.ref h), some (.int (nI i)), some (.int v), some (.int got), some (.int a)] [] := by
      intro N F Q E v got a hg
      refine x_iinc (pc' := 110) (v := nI (i + 1)) (L' := [some (.ref (gsB (kg k))), some (.ref h), some (.int (nI (i + 1))), some (.int v), some (.int got), some (.int a)]) C dL_law_107 rfl rfl (nI_1 i) (Nat.le_of_ble_eq_true rfl) rfl ?_
      refine x_goto (tgt := 10) C dL_law_110 (by decide) ?_
      exact ih (i + 1) (by omega) (by omega) N F Q E _ _ _ hg
    have k81 : ∀ (N F : CS) (Q : HS) (E : CS) (v got a : Int32), GQ N Q (i + 1) → LV N a → X k cs sl (cat [wMa h ad M, wSt (kg k) (ad 0) adN N, wSt (kg k) (ad 1) adF F, wSt (kg k) (ad 2) adP P, wHi (kg k) (ad 4) adQ Q, wRe (kg k) (ad 5) adE E, wOr (kg k) (ad 6) adO O]) 81 [some (.ref (gsB (kg k))), some (.ref h), some (.int (nI i)), some (.int v), some (.int got), some (.int a)] [] := by
      intro N F Q E v got a hg hv
      refine x_iload_n (pc' := 82) C dL_law_81 rfl rfl rfl ?_
      refine x_iconst (v := 4) (pc' := 83) C dL_law_82 rfl (by decide) ?_
      refine x_irem (v := irem (nI i) 4) (pc' := 84) C (by decide) dL_law_83 rfl rfl ?_
      refine x_iconst (v := 3) (pc' := 85) C dL_law_84 rfl (by decide) ?_
      refine x_icmp_ne (tgt := 107) (pc' := 88) C dL_law_85 (by decide) rfl (fun _ => k107 N F Q E v got a hg) (fun _ => ?_)
      refine x_aload_n (pc' := 89) C dL_law_88 rfl rfl rfl ?_
      refine x_iload (pc' := 91) C dL_law_89 rfl rfl ?_
      refine x_aload_n (pc' := 92) C dL_law_91 rfl rfl rfl ?_
      refine x_iload_n (pc' := 93) C dL_law_92 rfl rfl rfl ?_
      refine x_bipush (v := 9) (pc' := 95) C dL_law_93 rfl (by decide) ?_
      refine x_ishr (v := (v >>> (9 &&& 31))) (pc' := 96) C dL_law_95 rfl rfl ?_
      have hp := pick_ok M N E hg (v >>> (9 &&& 31))
      obtain ⟨zp, ezp⟩ : ∃ z, z = (f_L_pick M N E (v >>> (9 &&& 31))) := ⟨_, rfl⟩
      have hczp := c_L_pick (kl k) (kg k) h ad M adN N adE E (v >>> (9 &&& 31)) hp.1
      rw [← ezp] at hczp
      refine x_catWS (st := [.int a, .ref h]) (st2 := [.int zp.1, .int a, .ref h]) (pc' := 99) (wcs := [wMa h ad M, wSt (kg k) (ad 0) adN N, wRe (kg k) (ad 5) adE E]) (wrs := [wSt (kg k) (ad 1) adF F, wSt (kg k) (ad 2) adP P, wHi (kg k) (ad 4) adQ Q, wOr (kg k) (ad 6) adO O]) (wcs' := [wMa h ad M, wSt (kg k) (ad 0) adN N, wRe (kg k) (ad 5) adE zp.2]) C B [wMa h ad M, wSt (kg k) (ad 0) adN N, wSt (kg k) (ad 1) adF F, wSt (kg k) (ad 2) adP P, wHi (kg k) (ad 4) adQ Q, wRe (kg k) (ad 5) adE zp.2, wOr (kg k) (ad 6) adO O] hczp rfl rfl cw_L_19 ok_L_pick (by decide) [2, 3, 4, 6, 0, 1, 5] [4, 5, 0, 1, 2, 6, 3] rfl rfl rfl rfl rfl (Nat.le_of_ble_eq_true rfl) hcs hsl rfl dL_law_96 rfl rfl ?_
      have hpv := hp.2
      rw [← ezp] at hpv
      have hi := areIfsSo_ok M N F Q zp.2 O hg (by omega) hv hpv
      obtain ⟨zi, ezi⟩ : ∃ z, z = (f_L_areIfsSo M N F Q zp.2 O a zp.1) := ⟨_, rfl⟩
      have hczi := c_L_areIfsSo (kl k) (kg k) h ad M adN N adF F adQ Q adE zp.2 adO O a zp.1 hi.1
      rw [← ezi] at hczi
      refine x_catWS (st := []) (st2 := [.int (bI zi.1)]) (pc' := 102) (wcs := [wMa h ad M, wSt (kg k) (ad 0) adN N, wSt (kg k) (ad 1) adF F, wHi (kg k) (ad 4) adQ Q, wRe (kg k) (ad 5) adE zp.2, wOr (kg k) (ad 6) adO O]) (wrs := [wSt (kg k) (ad 2) adP P]) (wcs' := [wMa h ad M, wSt (kg k) (ad 0) adN zi.2.1, wSt (kg k) (ad 1) adF zi.2.2.1, wHi (kg k) (ad 4) adQ zi.2.2.2.1, wRe (kg k) (ad 5) adE zi.2.2.2.2, wOr (kg k) (ad 6) adO O]) C B [wMa h ad M, wSt (kg k) (ad 0) adN zi.2.1, wSt (kg k) (ad 1) adF zi.2.2.1, wSt (kg k) (ad 2) adP P, wHi (kg k) (ad 4) adQ zi.2.2.2.1, wRe (kg k) (ad 5) adE zi.2.2.2.2, wOr (kg k) (ad 6) adO O] hczi rfl rfl cw_L_93 ok_L_areIfsSo (by decide) [3, 0, 1, 2, 4, 5, 6] [1, 2, 3, 0, 4, 5, 6] rfl rfl rfl rfl rfl (Nat.le_of_ble_eq_true rfl) hcs hsl rfl dL_law_99 rfl rfl ?_
      have hi2 := hi.2
      rw [← ezi] at hi2
      exact x_ifB_ne (tgt := 107) (pc' := 105) C dL_law_102 (by decide) rfl (fun _ => k107 zi.2.1 zi.2.2.1 zi.2.2.2.1 zi.2.2.2.2 v got a hi2.2) (fun c => absurd hi2.1 c)
    have k65 : ∀ (N F : CS) (Q : HS) (E : CS) (v got a : Int32), GQ N Q (i + 1) → LV N a → X k cs sl (cat [wMa h ad M, wSt (kg k) (ad 0) adN N, wSt (kg k) (ad 1) adF F, wSt (kg k) (ad 2) adP P, wHi (kg k) (ad 4) adQ Q, wRe (kg k) (ad 5) adE E, wOr (kg k) (ad 6) adO O]) 65 [some (.ref (gsB (kg k))), some (.ref h), some (.int (nI i)), some (.int v), some (.int got), some (.int a)] [] := by
      intro N F Q E v got a hg hv
      refine x_iload_n (pc' := 66) C dL_law_65 rfl rfl rfl ?_
      refine x_iconst (v := 3) (pc' := 67) C dL_law_66 rfl (by decide) ?_
      refine x_irem (v := irem (nI i) 3) (pc' := 68) C (by decide) dL_law_67 rfl rfl ?_
      refine x_iconst (v := 1) (pc' := 69) C dL_law_68 rfl (by decide) ?_
      refine x_icmp_ne (tgt := 81) (pc' := 72) C dL_law_69 (by decide) rfl (fun _ => k81 N F Q E v got a hg hv) (fun _ => ?_)
      refine x_aload_n (pc' := 73) C dL_law_72 rfl rfl rfl ?_
      refine x_iload (pc' := 75) C dL_law_73 rfl rfl ?_
      have hi := isAskSo_ok M N F Q E O hg (by omega) hv
      obtain ⟨zi, ezi⟩ : ∃ z, z = (f_L_isAskSo M N F Q E O a) := ⟨_, rfl⟩
      have hczi := c_L_isAskSo (kl k) (kg k) h ad M adN N adF F adQ Q adE E adO O a hi.1
      rw [← ezi] at hczi
      refine x_catWS (st := []) (st2 := [.int (bI zi.1)]) (pc' := 78) (wcs := [wMa h ad M, wSt (kg k) (ad 0) adN N, wSt (kg k) (ad 1) adF F, wHi (kg k) (ad 4) adQ Q, wRe (kg k) (ad 5) adE E, wOr (kg k) (ad 6) adO O]) (wrs := [wSt (kg k) (ad 2) adP P]) (wcs' := [wMa h ad M, wSt (kg k) (ad 0) adN zi.2.1, wSt (kg k) (ad 1) adF zi.2.2.1, wHi (kg k) (ad 4) adQ zi.2.2.2.1, wRe (kg k) (ad 5) adE zi.2.2.2.2, wOr (kg k) (ad 6) adO O]) C B [wMa h ad M, wSt (kg k) (ad 0) adN zi.2.1, wSt (kg k) (ad 1) adF zi.2.2.1, wSt (kg k) (ad 2) adP P, wHi (kg k) (ad 4) adQ zi.2.2.2.1, wRe (kg k) (ad 5) adE zi.2.2.2.2, wOr (kg k) (ad 6) adO O] hczi rfl rfl cw_L_90 ok_L_isAskSo (by decide) [3, 0, 1, 2, 4, 5, 6] [1, 2, 3, 0, 4, 5, 6] rfl rfl rfl rfl rfl (Nat.le_of_ble_eq_true rfl) hcs hsl rfl dL_law_75 rfl rfl ?_
      have hi2 := hi.2
      rw [← ezi] at hi2
      exact x_ifB_eq (tgt := 105) (pc' := 81) C dL_law_78 (by decide) rfl (fun c => absurd hi2.1 c) (fun _ => k81 zi.2.1 zi.2.2.1 zi.2.2.2.1 zi.2.2.2.2 v got a hi2.2.1 (hi2.2.2 a hv))
    have k56 : ∀ (N F : CS) (Q : HS) (E : CS) (v got a : Int32), GQ N Q (i + 1) → LV N a → X k cs sl (cat [wMa h ad M, wSt (kg k) (ad 0) adN N, wSt (kg k) (ad 1) adF F, wSt (kg k) (ad 2) adP P, wHi (kg k) (ad 4) adQ Q, wRe (kg k) (ad 5) adE E, wOr (kg k) (ad 6) adO O]) 56 [some (.ref (gsB (kg k))), some (.ref h), some (.int (nI i)), some (.int v), some (.int got), some (.int a)] [] := by
      intro N F Q E v got a hg hv
      refine x_aload_n (pc' := 57) C dL_law_56 rfl rfl rfl ?_
      refine x_iload (pc' := 59) C dL_law_57 rfl rfl ?_
      have hi := isWaySo_ok M N E hg hv
      obtain ⟨zi, ezi⟩ : ∃ z, z = (f_L_isWaySo M N E a) := ⟨_, rfl⟩
      have hczi := c_L_isWaySo (kl k) (kg k) h ad M adN N adE E a hi.1
      rw [← ezi] at hczi
      refine x_catWS (st := []) (st2 := [.int (bI zi.1)]) (pc' := 62) (wcs := [wMa h ad M, wSt (kg k) (ad 0) adN N, wRe (kg k) (ad 5) adE E]) (wrs := [wSt (kg k) (ad 1) adF F, wSt (kg k) (ad 2) adP P, wHi (kg k) (ad 4) adQ Q, wOr (kg k) (ad 6) adO O]) (wcs' := [wMa h ad M, wSt (kg k) (ad 0) adN N, wRe (kg k) (ad 5) adE zi.2]) C B [wMa h ad M, wSt (kg k) (ad 0) adN N, wSt (kg k) (ad 1) adF F, wSt (kg k) (ad 2) adP P, wHi (kg k) (ad 4) adQ Q, wRe (kg k) (ad 5) adE zi.2, wOr (kg k) (ad 6) adO O] hczi rfl rfl cw_L_86 ok_L_isWaySo (by decide) [2, 3, 4, 6, 0, 1, 5] [4, 5, 0, 1, 2, 6, 3] rfl rfl rfl rfl rfl (Nat.le_of_ble_eq_true rfl) hcs hsl rfl dL_law_59 rfl rfl ?_
      have hi2 := hi.2
      rw [← ezi] at hi2
      exact x_ifB_eq (tgt := 105) (pc' := 65) C dL_law_62 (by decide) rfl (fun c => absurd hi2 c) (fun _ => k65 N F Q zi.2 v got a hg hv)
    refine x_aload_n (pc' := 17) C dL_law_16 rfl rfl rfl ?_
    refine x_iload_n (pc' := 18) C dL_law_17 rfl rfl rfl ?_
    refine x_RS (st := []) (st2 := [.int (cel (kg k) i)]) (pc' := 21) C (c_L_cell (kl k) (kg k) i hi5 hL) cw_L_75 ok_L_cell (by decide) [] rfl rfl rfl (Nat.le_of_ble_eq_true rfl) hcs hsl rfl dL_law_18 rfl rfl ?_
    generalize cel (kg k) i = v
    refine x_istore_n (pc' := 22) (L' := [some (.ref (gsB (kg k))), some (.ref h), some (.int (nI i)), some (.int v), L4, L5]) C dL_law_21 rfl rfl (Nat.le_of_ble_eq_true rfl) rfl ?_
    refine x_aload_n (pc' := 23) C dL_law_22 rfl rfl rfl ?_
    refine x_iload_n (pc' := 24) C dL_law_23 rfl rfl rfl ?_
    have hd := does_ok M N F Q E O hg hi5 v
    obtain ⟨zd, ezd⟩ : ∃ z, z = (f_L_does M N F Q E O v) := ⟨_, rfl⟩
    have hczd := c_L_does (kl k) (kg k) h ad M adN N adF F adQ Q adE E adO O v hd.1
    rw [← ezd] at hczd
    refine x_catWS (st := []) (st2 := [.int zd.1]) (pc' := 27) (wcs := [wMa h ad M, wSt (kg k) (ad 0) adN N, wSt (kg k) (ad 1) adF F, wHi (kg k) (ad 4) adQ Q, wRe (kg k) (ad 5) adE E, wOr (kg k) (ad 6) adO O]) (wrs := [wSt (kg k) (ad 2) adP P]) (wcs' := [wMa h ad M, wSt (kg k) (ad 0) adN zd.2.1, wSt (kg k) (ad 1) adF zd.2.2.1, wHi (kg k) (ad 4) adQ zd.2.2.2.1, wRe (kg k) (ad 5) adE zd.2.2.2.2, wOr (kg k) (ad 6) adO O]) C B [wMa h ad M, wSt (kg k) (ad 0) adN zd.2.1, wSt (kg k) (ad 1) adF zd.2.2.1, wSt (kg k) (ad 2) adP P, wHi (kg k) (ad 4) adQ zd.2.2.2.1, wRe (kg k) (ad 5) adE zd.2.2.2.2, wOr (kg k) (ad 6) adO O] hczd rfl rfl cw_L_79 ok_L_does (by decide) [3, 0, 1, 2, 4, 5, 6] [1, 2, 3, 0, 4, 5, 6] rfl rfl rfl rfl rfl (Nat.le_of_ble_eq_true rfl) hcs hsl rfl dL_law_24 rfl rfl ?_
    have hd2 := hd.2
    rw [← ezd] at hd2
    clear hd ezd hczd hg
    refine x_istore (pc' := 29) (L' := [some (.ref (gsB (kg k))), some (.ref h), some (.int (nI i)), some (.int v), some (.int zd.1), L5]) C dL_law_27 rfl (Nat.le_of_ble_eq_true rfl) rfl ?_
    refine x_aload_n (pc' := 30) C dL_law_29 rfl rfl rfl ?_
    refine x_iload_n (pc' := 31) C dL_law_30 rfl rfl rfl ?_
    refine x_iconst (v := 5) (pc' := 32) C dL_law_31 rfl (by decide) ?_
    refine x_ishr (v := (v >>> (5 &&& 31))) (pc' := 33) C dL_law_32 rfl rfl ?_
    have hp := pick_ok M zd.2.1 zd.2.2.2.2 hd2.2 (v >>> (5 &&& 31))
    obtain ⟨zp, ezp⟩ : ∃ z, z = (f_L_pick M zd.2.1 zd.2.2.2.2 (v >>> (5 &&& 31))) := ⟨_, rfl⟩
    have hczp := c_L_pick (kl k) (kg k) h ad M adN zd.2.1 adE zd.2.2.2.2 (v >>> (5 &&& 31)) hp.1
    rw [← ezp] at hczp
    refine x_catWS (st := []) (st2 := [.int zp.1]) (pc' := 36) (wcs := [wMa h ad M, wSt (kg k) (ad 0) adN zd.2.1, wRe (kg k) (ad 5) adE zd.2.2.2.2]) (wrs := [wSt (kg k) (ad 1) adF zd.2.2.1, wSt (kg k) (ad 2) adP P, wHi (kg k) (ad 4) adQ zd.2.2.2.1, wOr (kg k) (ad 6) adO O]) (wcs' := [wMa h ad M, wSt (kg k) (ad 0) adN zd.2.1, wRe (kg k) (ad 5) adE zp.2]) C B [wMa h ad M, wSt (kg k) (ad 0) adN zd.2.1, wSt (kg k) (ad 1) adF zd.2.2.1, wSt (kg k) (ad 2) adP P, wHi (kg k) (ad 4) adQ zd.2.2.2.1, wRe (kg k) (ad 5) adE zp.2, wOr (kg k) (ad 6) adO O] hczp rfl rfl cw_L_19 ok_L_pick (by decide) [2, 3, 4, 6, 0, 1, 5] [4, 5, 0, 1, 2, 6, 3] rfl rfl rfl rfl rfl (Nat.le_of_ble_eq_true rfl) hcs hsl rfl dL_law_33 rfl rfl ?_
    have hpv := hp.2
    rw [← ezp] at hpv
    clear hp ezp hczp
    refine x_istore (pc' := 38) (L' := [some (.ref (gsB (kg k))), some (.ref h), some (.int (nI i)), some (.int v), some (.int zd.1), some (.int zp.1)]) C dL_law_36 rfl (Nat.le_of_ble_eq_true rfl) rfl ?_
    refine x_iload (pc' := 40) C dL_law_38 rfl rfl ?_
    refine x_if_lt (tgt := 105) (pc' := 43) C dL_law_40 (by decide) rfl (fun c => absurd c hd2.1) (fun _ => ?_)
    refine x_iload_n (pc' := 44) C dL_law_43 rfl rfl rfl ?_
    refine x_iconst (v := 2) (pc' := 45) C dL_law_44 rfl (by decide) ?_
    refine x_irem (v := irem (nI i) 2) (pc' := 46) C (by decide) dL_law_45 rfl rfl ?_
    refine x_if_ne (tgt := 56) (pc' := 49) C dL_law_46 (by decide) rfl (fun _ => k56 zd.2.1 zd.2.2.1 zd.2.2.2.1 zp.2 v zd.1 zp.1 hd2.2 hpv) (fun _ => ?_)
    refine x_aload_n (pc' := 50) C dL_law_49 rfl rfl rfl ?_
    have hs := isSo_ok M zd.2.1 zp.2 O hd2.2 (by omega)
    obtain ⟨zs, ezs⟩ : ∃ z, z = (f_L_isSo M zd.2.1 zd.2.2.2.1 zp.2 O) := ⟨_, rfl⟩
    have hczs := c_L_isSo (kl k) (kg k) h ad M adN zd.2.1 adQ zd.2.2.2.1 adE zp.2 adO O
    rw [← ezs] at hczs
    refine x_catWS (st := []) (st2 := [.int (bI zs.1)]) (pc' := 53) (wcs := [wMa h ad M, wSt (kg k) (ad 0) adN zd.2.1, wHi (kg k) (ad 4) adQ zd.2.2.2.1, wRe (kg k) (ad 5) adE zp.2, wOr (kg k) (ad 6) adO O]) (wrs := [wSt (kg k) (ad 1) adF zd.2.2.1, wSt (kg k) (ad 2) adP P]) (wcs' := [wMa h ad M, wSt (kg k) (ad 0) adN zd.2.1, wHi (kg k) (ad 4) adQ zd.2.2.2.1, wRe (kg k) (ad 5) adE zs.2, wOr (kg k) (ad 6) adO O]) C B [wMa h ad M, wSt (kg k) (ad 0) adN zd.2.1, wSt (kg k) (ad 1) adF zd.2.2.1, wSt (kg k) (ad 2) adP P, wHi (kg k) (ad 4) adQ zd.2.2.2.1, wRe (kg k) (ad 5) adE zs.2, wOr (kg k) (ad 6) adO O] hczs rfl rfl cw_L_82 ok_L_isSo (by decide) [2, 3, 0, 1, 4, 5, 6] [2, 3, 0, 1, 4, 5, 6] rfl rfl rfl rfl rfl (Nat.le_of_ble_eq_true rfl) hcs hsl rfl dL_law_50 rfl rfl ?_
    rw [← ezs] at hs
    exact x_ifB_eq (tgt := 105) (pc' := 56) C dL_law_53 (by decide) rfl (fun c => absurd hs c) (fun _ => k56 zd.2.1 zd.2.2.1 zd.2.2.2.1 zs.2 v zd.1 zp.1 hd2.2 hpv)
