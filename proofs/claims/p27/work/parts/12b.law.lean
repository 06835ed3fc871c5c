def f_L_low (a1 : Int32) (a2 : Int32) : Int32 := (irem (a1 &&& 2147483647) a2)
def o_L_low (a1 : Int32) (a2 : Int32) : Prop := (¬ a2 = 0 ∧ True)
set_option maxRecDepth 100000 in
set_option maxHeartbeats 8000000 in
theorem c_L_low (l : Launch) (g : GT) (a1 : Int32) (a2 : Int32) (hok : o_L_low a1 a2) : CR l yL_low (.code yL_low cL_low 2 (some .int)) 0 g [.int a1, .int a2] ([]) (some (.int (f_L_low a1 a2))) := by
  obtain ⟨RES, hRES⟩ : ∃ z, z = (f_L_low a1 a2) := ⟨_, rfl⟩
  rw [← hRES]
  unfold f_L_low at hRES
  unfold o_L_low at hok
  refine CRx.of (nL := 2) (ret := (some .int)) (own := RL) (cc := cL_low) rfl (by decide) rfl (List.forall_mem_cons.mpr ⟨rfl, (List.forall_mem_cons.mpr ⟨rfl, (fun _ h => absurd h List.not_mem_nil)⟩)⟩) (Nat.le_of_ble_eq_true rfl) ?_
  intro k C hkl hkg
  subst hkl; subst hkg
  refine x_loc2 (L' := [some (.int a1), some (.int a2)]) rfl ?_
  refine x_iload_n (pc' := 1) C dL_low_0 rfl rfl rfl ?_
  refine x_ldci (v := 2147483647) (pc' := 3) C kn_L_7 dL_low_1 rfl ?_
  refine x_iand (pc' := 4) (v := (a1 &&& 2147483647)) C dL_low_3 rfl rfl ?_
  refine x_iload_n (pc' := 5) C dL_low_4 rfl rfl rfl ?_
  obtain ⟨hn1, hok⟩ := hok
  refine x_irem (pc' := 6) (v := (irem (a1 &&& 2147483647) a2)) C (hn1) dL_low_5 rfl rfl ?_
  exact x_iret C (Nat.zero_le _) (Nat.zero_le _) dL_low_6 (by rw [hRES])

def k_L_pick_37 (E_37 : CS) (x2_37 : Int32) : Int32 × CS := (x2_37, E_37)
def ok_L_pick_37 (E_37 : CS) (x2_37 : Int32) : Prop := True
def l_L_pick_9 (M : CS) (N : CS) : Nat → CS → Int32 → Nat → Int32 × CS
  | 0, _, _, _ => (0, dfCS)
  | n9 + 1, E_9, x2_9, i3_9 => (if i3_9 < 24 then (bind1 (f_X6_version M N E_9 x2_9 3) (fun z3 => (if z3.1 < 0 then (l_L_pick_9 M N n9 z3.2 (irem (x2_9 + 1) 24) (i3_9 + 1)) else (k_L_pick_37 z3.2 x2_9)))) else (k_L_pick_37 E_9 x2_9))
def ol_L_pick_9 (M : CS) (N : CS) : Nat → CS → Int32 → Nat → Prop
  | 0, _, _, _ => True
  | n9 + 1, E_9, x2_9, i3_9 => ((i3_9 < 24 → (bind1 (f_X6_version M N E_9 x2_9 3) (fun z3 => ((z3.1 < 0 → (ol_L_pick_9 M N n9 z3.2 (irem (x2_9 + 1) 24) (i3_9 + 1))) ∧ (¬ (z3.1 < 0) → (ok_L_pick_37 z3.2 x2_9)))))) ∧ (¬ (i3_9 < 24) → (ok_L_pick_37 E_9 x2_9)))
def f_L_pick (M : CS) (N : CS) (E : CS) (a2 : Int32) : Int32 × CS := (l_L_pick_9 M N 25 E (f_L_low a2 24) 0)
def o_L_pick (M : CS) (N : CS) (E : CS) (a2 : Int32) : Prop := ((o_L_low a2 24) ∧ (ol_L_pick_9 M N 25 E (f_L_low a2 24) 0))
set_option maxRecDepth 100000 in
set_option maxHeartbeats 8000000 in
theorem c_L_pick (l : Launch) (g : GT) (h : Nat) (ad : Nat → Nat) (M : CS) (adN : Nat → Nat) (N : CS) (adE : Nat → Nat) (E : CS) (a2 : Int32) (hok : o_L_pick M N E a2) : CW l yL_pick (.code yL_pick cL_pick 4 (some .int)) 6 g [.ref h, .int a2] (cat [wMa h ad M, wSt g (ad 0) adN N, wRe g (ad 5) adE E]) (some (.int (f_L_pick M N E a2).1)) (cat [wMa h ad M, wSt g (ad 0) adN N, wRe g (ad 5) adE (f_L_pick M N E a2).2]) := by
  obtain ⟨RES, hRES⟩ : ∃ z, z = (f_L_pick M N E a2) := ⟨_, rfl⟩
  rw [← hRES]
  unfold f_L_pick at hRES
  unfold o_L_pick at hok
  refine CWx.of (nL := 4) (ret := (some .int)) (own := RL) (cc := cL_pick) rfl (by decide) rfl (List.forall_mem_cons.mpr ⟨rfl, (List.forall_mem_cons.mpr ⟨rfl, (fun _ h => absurd h List.not_mem_nil)⟩)⟩) (Nat.le_of_ble_eq_true rfl) ?_
  intro k C B hin hkl hkg
  subst hkl; subst hkg
  refine x_loc2 (L' := [some (.ref h), some (.int a2), none, none]) rfl ?_
  refine x_iload_n (pc' := 1) C dL_pick_0 rfl rfl rfl ?_
  refine x_bipush (v := 24) (pc' := 3) C dL_pick_1 rfl (by decide) ?_
  obtain ⟨hn1, hok⟩ := hok
  refine x_RS (st := []) (st2 := [.int (f_L_low a2 24)]) (pc' := 6) C (c_L_low (kl k) (kg k) a2 24 hn1) cw_L_8 ok_L_low (by decide) [] rfl rfl rfl (Nat.le_of_ble_eq_true rfl) (Nat.zero_le _) (Nat.zero_le _) rfl dL_pick_3 rfl rfl ?_
  refine x_istore_n (pc' := 7) (L' := [some (.ref h), some (.int a2), some (.int (f_L_low a2 24)), none]) C dL_pick_6 rfl rfl (Nat.le_of_ble_eq_true rfl) rfl ?_
  refine x_iconst (v := 0) (pc' := 8) C dL_pick_7 rfl (by decide) ?_
  refine x_istore_n (pc' := 9) (L' := [some (.ref h), some (.int a2), some (.int (f_L_low a2 24)), some (.int 0)]) C dL_pick_8 rfl rfl (Nat.le_of_ble_eq_true rfl) rfl ?_
  have cont37 : ∀ (E_37 : CS) (x2_37 : Int32), RES = k_L_pick_37 E_37 x2_37 → ok_L_pick_37 E_37 x2_37 → X k 0 0 (cat [wMa h ad M, wSt (kg k) (ad 0) adN N, wRe (kg k) (ad 5) adE E_37]) 37 [none, none, some (.int x2_37), none] [] := by
    intro E_37 x2_37 hRES hok
    unfold k_L_pick_37 at hRES
    unfold ok_L_pick_37 at hok
    refine x_iload_n (pc' := 38) C dL_pick_37 rfl rfl rfl ?_
    exact x_iret C (Nat.zero_le _) (Nat.zero_le _) dL_pick_38 ⟨by rw [hRES], by rw [hRES]⟩
  have loop9 : ∀ (n9 : Nat) (E_9 : CS) (x2_9 : Int32) (i3_9 : Nat), i3_9 ≤ 24 → 24 < i3_9 + n9 → RES = l_L_pick_9 M N n9 E_9 x2_9 i3_9 → ol_L_pick_9 M N n9 E_9 x2_9 i3_9 → X k 0 0 (cat [wMa h ad M, wSt (kg k) (ad 0) adN N, wRe (kg k) (ad 5) adE E_9]) 9 [some (.ref h), none, some (.int x2_9), some (.int (nI i3_9))] [] := by
    intro n9
    induction n9 with
    | zero =>
      intro E_9 x2_9 i3_9 hb9 hf9 hRES hok
      omega
    | succ n9 ih9 =>
      intro E_9 x2_9 i3_9 hb9 hf9 hRES hok
      rw [l_L_pick_9] at hRES
      rw [ol_L_pick_9] at hok
      refine x_iload_n (pc' := 10) C dL_pick_9 rfl rfl rfl ?_
      refine x_bipush (v := 24) (pc' := 12) C dL_pick_10 rfl (by decide) ?_
      refine x_icmpN_ge (tgt := 37) (pc' := 15) C i3_9 24 dL_pick_12 (by decide) rfl (by omega) (by omega) (fun c2 => ?_) (fun c2 => ?_)
      · rw [if_neg c2] at hRES
        replace hok := hok.2 c2
        refine x_forget (L' := [none, none, some (.int x2_9), none]) [1] rfl rfl ?_
        exact cont37 E_9 x2_9 hRES hok
      · rw [if_pos c2] at hRES
        replace hok := hok.1 c2
        refine x_aload_n (pc' := 16) C dL_pick_15 rfl rfl rfl ?_
        refine x_iload_n (pc' := 17) C dL_pick_16 rfl rfl rfl ?_
        refine x_iconst (v := 3) (pc' := 18) C dL_pick_17 rfl (by decide) ?_
        obtain ⟨z3, ez3⟩ : ∃ z, z = (f_X6_version M N E_9 x2_9 3) := ⟨_, rfl⟩
        replace hRES := bd hRES z3 ez3
        replace hok := bdP hok z3 ez3
        have hc := c_X6_version (kl k) (kg k) h ad M adN N adE E_9 x2_9 3
        rw [← ez3] at hc
        refine x_catWV (st := []) (st2 := [.int z3.1]) (pc' := 21) (wcs := [wMa h ad M, wSt (kg k) (ad 0) adN N, wRe (kg k) (ad 5) adE E_9]) (wrs := []) (wcs' := [wMa h ad M, wSt (kg k) (ad 0) adN N, wRe (kg k) (ad 5) adE z3.2]) C B [wMa h ad M, wSt (kg k) (ad 0) adN N, wRe (kg k) (ad 5) adE z3.2] hc rfl rfl cw_L_14 ok_X6_version rfl (by decide) rfl rfl [0, 1, 2] [0, 1, 2] rfl rfl rfl rfl rfl (Nat.le_of_ble_eq_true rfl) (Nat.zero_le _) (Nat.zero_le _) rfl dL_pick_18 rfl rfl ?_
        refine x_if_ge (tgt := 37) (pc' := 24) C dL_pick_21 (by decide) rfl (fun c4 => ?_) (fun c4 => ?_)
        · rw [if_neg c4] at hRES
          replace hok := hok.2 c4
          refine x_forget (L' := [none, none, some (.int x2_9), none]) [1] rfl rfl ?_
          exact cont37 z3.2 x2_9 hRES hok
        · rw [if_pos c4] at hRES
          replace hok := hok.1 c4
          refine x_iload_n (pc' := 25) C dL_pick_24 rfl rfl rfl ?_
          refine x_iconst (v := 1) (pc' := 26) C dL_pick_25 rfl (by decide) ?_
          refine x_iadd (pc' := 27) (v := (x2_9 + 1)) C dL_pick_26 rfl rfl ?_
          refine x_bipush (v := 24) (pc' := 29) C dL_pick_27 rfl (by decide) ?_
          refine x_irem (pc' := 30) (v := (irem (x2_9 + 1) 24)) C (by decide) dL_pick_29 rfl rfl ?_
          refine x_istore_n (pc' := 31) (L' := [some (.ref h), none, some (.int (irem (x2_9 + 1) 24)), some (.int (nI i3_9))]) C dL_pick_30 rfl rfl (Nat.le_of_ble_eq_true rfl) rfl ?_
          refine x_iinc (pc' := 34) (v := (nI (i3_9 + 1))) (L' := [some (.ref h), none, some (.int (irem (x2_9 + 1) 24)), some (.int (nI (i3_9 + 1)))]) C dL_pick_31 rfl rfl (nI_add i3_9 1) (Nat.le_of_ble_eq_true rfl) rfl ?_
          refine x_goto (tgt := 9) C dL_pick_34 (by decide) ?_
          exact ih9 z3.2 (irem (x2_9 + 1) 24) (i3_9 + 1) (by omega) (by omega) hRES hok
  refine x_forget (L' := [some (.ref h), none, some (.int (f_L_low a2 24)), some (.int 0)]) [0, 2, 3] rfl rfl ?_
  exact loop9 25 E (f_L_low a2 24) 0 (by omega) (by omega) hRES hok

def j_L_does_290 (M : CS) (N : CS) (F : CS) (Q : HS) (a2 : Int32) (z4 : Int32 × CS) (y2_290 : Int32) : Int32 × CS × CS × HS × CS := (bind1 (f_X6_set M N F Q ((a2 >>> (4 &&& 31)) &&& 1) y2_290) (fun z67 => (if z67.1 = (-5) then (0, z67.2.1, z67.2.2.1, z67.2.2.2, z4.2) else (z67.1, z67.2.1, z67.2.2.1, z67.2.2.2, z4.2))))
def oj_L_does_290 (M : CS) (N : CS) (F : CS) (Q : HS) (a2 : Int32) (y2_290 : Int32) : Prop := ((o_X6_set M N F Q ((a2 >>> (4 &&& 31)) &&& 1) y2_290) ∧ (bind1 (f_X6_set M N F Q ((a2 >>> (4 &&& 31)) &&& 1) y2_290) (fun z67 => ((z67.1 = (-5) → True) ∧ (¬ (z67.1 = (-5)) → True)))))
def f_L_does (M : CS) (N : CS) (F : CS) (Q : HS) (E : CS) (O : CS) (a2 : Int32) : Int32 × CS × CS × HS × CS := (bind1 (f_L_pick M N E (a2 >>> (4 &&& 31))) (fun z2 => (bind1 (f_L_pick M N z2.2 (a2 >>> (7 &&& 31))) (fun z4 => (if (a2 &&& 15) = 0 then (bind1 (f_X6_count M N Q z4.2 O 0) (fun z6 => (if z6.1 = 14 then (0, N, F, Q, z6.2) else (bind1 (f_X6_make M N F Q z2.1 (f_L_low (a2 >>> (8 &&& 31)) 8) (f_L_low (a2 >>> (11 &&& 31)) 4)) (fun z11 => (z11.1, z11.2.1, z11.2.2.1, z11.2.2.2, z6.2)))))) else (if (a2 &&& 15) = 1 then (bind1 (f_X6_count M N Q z4.2 O 0) (fun z13 => (if z13.1 = 14 then (0, N, F, Q, z13.2) else (bind1 (f_X6_make M N F Q z2.1 (f_L_low (a2 >>> (8 &&& 31)) 8) (f_L_low (a2 >>> (11 &&& 31)) 4)) (fun z18 => (z18.1, z18.2.1, z18.2.2.1, z18.2.2.2, z13.2)))))) else (if (a2 &&& 15) = 2 then (bind1 (f_X6_count M N Q z4.2 O 0) (fun z20 => (if z20.1 = 14 then (0, N, F, Q, z20.2) else (bind1 (f_X6_make M N F Q z2.1 (f_L_low (a2 >>> (8 &&& 31)) 8) (f_L_low (a2 >>> (11 &&& 31)) 4)) (fun z25 => (z25.1, z25.2.1, z25.2.2.1, z25.2.2.2, z20.2)))))) else (if (a2 &&& 15) = 3 then (bind1 (f_X6_count M N Q z4.2 O 0) (fun z27 => (if z27.1 = 14 then (0, N, F, Q, z27.2) else (bind1 (f_X6_mix M N F Q z2.1 z4.1 ((1 : Int32) + (f_L_low (a2 >>> (6 &&& 31)) 255))) (fun z31 => (z31.1, z31.2.1, z31.2.2.1, z31.2.2.2, z27.2)))))) else (if (a2 &&& 15) = 4 then (bind1 (f_X6_count M N Q z4.2 O 0) (fun z33 => (if z33.1 = 14 then (0, N, F, Q, z33.2) else (bind1 (f_X6_mix M N F Q z2.1 z4.1 ((1 : Int32) + (f_L_low (a2 >>> (6 &&& 31)) 255))) (fun z37 => (z37.1, z37.2.1, z37.2.2.1, z37.2.2.2, z33.2)))))) else (if (a2 &&& 15) = 5 then (bind1 (f_X6_remove M N F Q z2.1) (fun z40 => (if z40.1 = (-4) then (0, z40.2.1, z40.2.2.1, z40.2.2.2, z4.2) else (z40.1, z40.2.1, z40.2.2.1, z40.2.2.2, z4.2)))) else (if (a2 &&& 15) = 6 then (bind1 (f_X6_root M N F Q z4.2 z2.1) (fun z44 => (if z44.1 = (-5) then (0, z44.2.1, z44.2.2.1, z44.2.2.2.1, z44.2.2.2.2) else (z44.1, z44.2.1, z44.2.2.1, z44.2.2.2.1, z44.2.2.2.2)))) else (if (a2 &&& 15) = 7 then (bind1 (f_X6_root M N F Q z4.2 z2.1) (fun z48 => (if z48.1 = (-5) then (0, z48.2.1, z48.2.2.1, z48.2.2.2.1, z48.2.2.2.2) else (z48.1, z48.2.1, z48.2.2.1, z48.2.2.2.1, z48.2.2.2.2)))) else (if (a2 &&& 15) = 8 then (bind1 (f_X6_cut M N F Q z4.2 z2.1) (fun z52 => (if z52.1 = (-5) then (0, z52.2.1, z52.2.2.1, z52.2.2.2.1, z52.2.2.2.2) else (if z52.1 = (-4) then (0, z52.2.1, z52.2.2.1, z52.2.2.2.1, z52.2.2.2.2) else (z52.1, z52.2.1, z52.2.2.1, z52.2.2.2.1, z52.2.2.2.2))))) else (if (a2 &&& 15) = 9 then (bind1 (f_X6_join M N F Q z4.2 z2.1) (fun z57 => (if z57.1 = (-5) then (0, z57.2.1, z57.2.2.1, z57.2.2.2.1, z57.2.2.2.2) else (if z57.1 = (-4) then (0, z57.2.1, z57.2.2.1, z57.2.2.2.1, z57.2.2.2.2) else (z57.1, z57.2.1, z57.2.2.1, z57.2.2.2.1, z57.2.2.2.2))))) else (if (a2 &&& 15) = 10 then (bind1 (f_X6_join M N F Q z4.2 z2.1) (fun z62 => (if z62.1 = (-5) then (0, z62.2.1, z62.2.2.1, z62.2.2.2.1, z62.2.2.2.2) else (if z62.1 = (-4) then (0, z62.2.1, z62.2.2.1, z62.2.2.2.1, z62.2.2.2.2) else (z62.1, z62.2.1, z62.2.2.1, z62.2.2.2.1, z62.2.2.2.2))))) else (if (a2 &&& 15) = 11 then (if ((a2 >>> (4 &&& 31)) &&& 1) = 0 then (j_L_does_290 M N F Q a2 z4 (f_L_low (a2 >>> (5 &&& 31)) 3)) else (j_L_does_290 M N F Q a2 z4 ((1 : Int32) + (f_L_low (a2 >>> (5 &&& 31)) 4)))) else (bind1 (f_X6_ask M N F Q z4.2 z2.1) (fun z73 => (z73.1, z73.2.1, z73.2.2.1, z73.2.2.2.1, z73.2.2.2.2)))))))))))))))))))
def o_L_does (M : CS) (N : CS) (F : CS) (Q : HS) (E : CS) (O : CS) (a2 : Int32) : Prop := ((o_L_pick M N E (a2 >>> (4 &&& 31))) ∧ (bind1 (f_L_pick M N E (a2 >>> (4 &&& 31))) (fun z2 => ((o_L_pick M N z2.2 (a2 >>> (7 &&& 31))) ∧ (bind1 (f_L_pick M N z2.2 (a2 >>> (7 &&& 31))) (fun z4 => (((a2 &&& 15) = 0 → (bind1 (f_X6_count M N Q z4.2 O 0) (fun z6 => ((z6.1 = 14 → True) ∧ (¬ (z6.1 = 14) → ((o_L_low (a2 >>> (8 &&& 31)) 8) ∧ ((o_L_low (a2 >>> (11 &&& 31)) 4) ∧ ((o_X6_make M N F Q z2.1 (f_L_low (a2 >>> (8 &&& 31)) 8) (f_L_low (a2 >>> (11 &&& 31)) 4)) ∧ (bind1 (f_X6_make M N F Q z2.1 (f_L_low (a2 >>> (8 &&& 31)) 8) (f_L_low (a2 >>> (11 &&& 31)) 4)) (fun z11 => True)))))))))) ∧ (¬ (a2 &&& 15) = 0 → (((a2 &&& 15) = 1 → (bind1 (f_X6_count M N Q z4.2 O 0) (fun z13 => ((z13.1 = 14 → True) ∧ (¬ (z13.1 = 14) → ((o_L_low (a2 >>> (8 &&& 31)) 8) ∧ ((o_L_low (a2 >>> (11 &&& 31)) 4) ∧ ((o_X6_make M N F Q z2.1 (f_L_low (a2 >>> (8 &&& 31)) 8) (f_L_low (a2 >>> (11 &&& 31)) 4)) ∧ (bind1 (f_X6_make M N F Q z2.1 (f_L_low (a2 >>> (8 &&& 31)) 8) (f_L_low (a2 >>> (11 &&& 31)) 4)) (fun z18 => True)))))))))) ∧ (¬ (a2 &&& 15) = 1 → (((a2 &&& 15) = 2 → (bind1 (f_X6_count M N Q z4.2 O 0) (fun z20 => ((z20.1 = 14 → True) ∧ (¬ (z20.1 = 14) → ((o_L_low (a2 >>> (8 &&& 31)) 8) ∧ ((o_L_low (a2 >>> (11 &&& 31)) 4) ∧ ((o_X6_make M N F Q z2.1 (f_L_low (a2 >>> (8 &&& 31)) 8) (f_L_low (a2 >>> (11 &&& 31)) 4)) ∧ (bind1 (f_X6_make M N F Q z2.1 (f_L_low (a2 >>> (8 &&& 31)) 8) (f_L_low (a2 >>> (11 &&& 31)) 4)) (fun z25 => True)))))))))) ∧ (¬ (a2 &&& 15) = 2 → (((a2 &&& 15) = 3 → (bind1 (f_X6_count M N Q z4.2 O 0) (fun z27 => ((z27.1 = 14 → True) ∧ (¬ (z27.1 = 14) → ((o_L_low (a2 >>> (6 &&& 31)) 255) ∧ ((o_X6_mix M N F Q z2.1 z4.1 ((1 : Int32) + (f_L_low (a2 >>> (6 &&& 31)) 255))) ∧ (bind1 (f_X6_mix M N F Q z2.1 z4.1 ((1 : Int32) + (f_L_low (a2 >>> (6 &&& 31)) 255))) (fun z31 => True))))))))) ∧ (¬ (a2 &&& 15) = 3 → (((a2 &&& 15) = 4 → (bind1 (f_X6_count M N Q z4.2 O 0) (fun z33 => ((z33.1 = 14 → True) ∧ (¬ (z33.1 = 14) → ((o_L_low (a2 >>> (6 &&& 31)) 255) ∧ ((o_X6_mix M N F Q z2.1 z4.1 ((1 : Int32) + (f_L_low (a2 >>> (6 &&& 31)) 255))) ∧ (bind1 (f_X6_mix M N F Q z2.1 z4.1 ((1 : Int32) + (f_L_low (a2 >>> (6 &&& 31)) 255))) (fun z37 => True))))))))) ∧ (¬ (a2 &&& 15) = 4 → (((a2 &&& 15) = 5 → ((o_X6_remove M N F Q z2.1) ∧ (bind1 (f_X6_remove M N F Q z2.1) (fun z40 => ((z40.1 = (-4) → True) ∧ (¬ (z40.1 = (-4)) → True)))))) ∧ (¬ (a2 &&& 15) = 5 → (((a2 &&& 15) = 6 → ((o_X6_root M N F Q z4.2 z2.1) ∧ (bind1 (f_X6_root M N F Q z4.2 z2.1) (fun z44 => ((z44.1 = (-5) → True) ∧ (¬ (z44.1 = (-5)) → True)))))) ∧ (¬ (a2 &&& 15) = 6 → (((a2 &&& 15) = 7 → ((o_X6_root M N F Q z4.2 z2.1) ∧ (bind1 (f_X6_root M N F Q z4.2 z2.1) (fun z48 => ((z48.1 = (-5) → True) ∧ (¬ (z48.1 = (-5)) → True)))))) ∧ (¬ (a2 &&& 15) = 7 → (((a2 &&& 15) = 8 → ((o_X6_cut M N F Q z4.2 z2.1) ∧ (bind1 (f_X6_cut M N F Q z4.2 z2.1) (fun z52 => ((z52.1 = (-5) → True) ∧ (¬ (z52.1 = (-5)) → ((z52.1 = (-4) → True) ∧ (¬ (z52.1 = (-4)) → True)))))))) ∧ (¬ (a2 &&& 15) = 8 → (((a2 &&& 15) = 9 → ((o_X6_join M N F Q z4.2 z2.1) ∧ (bind1 (f_X6_join M N F Q z4.2 z2.1) (fun z57 => ((z57.1 = (-5) → True) ∧ (¬ (z57.1 = (-5)) → ((z57.1 = (-4) → True) ∧ (¬ (z57.1 = (-4)) → True)))))))) ∧ (¬ (a2 &&& 15) = 9 → (((a2 &&& 15) = 10 → ((o_X6_join M N F Q z4.2 z2.1) ∧ (bind1 (f_X6_join M N F Q z4.2 z2.1) (fun z62 => ((z62.1 = (-5) → True) ∧ (¬ (z62.1 = (-5)) → ((z62.1 = (-4) → True) ∧ (¬ (z62.1 = (-4)) → True)))))))) ∧ (¬ (a2 &&& 15) = 10 → (((a2 &&& 15) = 11 → ((((a2 >>> (4 &&& 31)) &&& 1) = 0 → ((o_L_low (a2 >>> (5 &&& 31)) 3) ∧ (oj_L_does_290 M N F Q a2 (f_L_low (a2 >>> (5 &&& 31)) 3)))) ∧ (¬ ((a2 >>> (4 &&& 31)) &&& 1) = 0 → ((o_L_low (a2 >>> (5 &&& 31)) 4) ∧ (oj_L_does_290 M N F Q a2 ((1 : Int32) + (f_L_low (a2 >>> (5 &&& 31)) 4))))))) ∧ (¬ (a2 &&& 15) = 11 → ((o_X6_ask M N F Q z4.2 z2.1) ∧ (bind1 (f_X6_ask M N F Q z4.2 z2.1) (fun z73 => True)))))))))))))))))))))))))))))))))
set_option maxRecDepth 100000 in
set_option maxHeartbeats 8000000 in
theorem c_L_does (l : Launch) (g : GT) (h : Nat) (ad : Nat → Nat) (M : CS) (adN : Nat → Nat) (N : CS) (adF : Nat → Nat) (F : CS) (adQ : Nat → Nat) (Q : HS) (adE : Nat → Nat) (E : CS) (adO : Nat → Nat) (O : CS) (a2 : Int32) (hok : o_L_does M N F Q E O a2) : CW l yL_does (.code yL_does cL_does 6 (some .int)) 7 g [.ref h, .int a2] (cat [wMa h ad M, wSt g (ad 0) adN N, wSt g (ad 1) adF F, wHi g (ad 4) adQ Q, wRe g (ad 5) adE E, wOr g (ad 6) adO O]) (some (.int (f_L_does M N F Q E O a2).1)) (cat [wMa h ad M, wSt g (ad 0) adN (f_L_does M N F Q E O a2).2.1, wSt g (ad 1) adF (f_L_does M N F Q E O a2).2.2.1, wHi g (ad 4) adQ (f_L_does M N F Q E O a2).2.2.2.1, wRe g (ad 5) adE (f_L_does M N F Q E O a2).2.2.2.2, wOr g (ad 6) adO O]) := by
  obtain ⟨RES, hRES⟩ : ∃ z, z = (f_L_does M N F Q E O a2) := ⟨_, rfl⟩
  rw [← hRES]
  unfold f_L_does at hRES
  unfold o_L_does at hok
  refine CWx.of (nL := 6) (ret := (some .int)) (own := RL) (cc := cL_does) rfl (by decide) rfl (List.forall_mem_cons.mpr ⟨rfl, (List.forall_mem_cons.mpr ⟨rfl, (fun _ h => absurd h List.not_mem_nil)⟩)⟩) (Nat.le_of_ble_eq_true rfl) ?_
  intro k C B hin hkl hkg
  subst hkl; subst hkg
  refine x_loc2 (L' := [some (.ref h), some (.int a2), none, none, none, none]) rfl ?_
  refine x_aload_n (pc' := 1) C dL_does_0 rfl rfl rfl ?_
  refine x_iload_n (pc' := 2) C dL_does_1 rfl rfl rfl ?_
  refine x_iconst (v := 4) (pc' := 3) C dL_does_2 rfl (by decide) ?_
  refine x_ishr (pc' := 4) (v := (a2 >>> (4 &&& 31))) C dL_does_3 rfl rfl ?_
  obtain ⟨hn1, hok⟩ := hok
  obtain ⟨z2, ez2⟩ : ∃ z, z = (f_L_pick M N E (a2 >>> (4 &&& 31))) := ⟨_, rfl⟩
  replace hRES := bd hRES z2 ez2
  replace hok := bdP hok z2 ez2
  have hc := c_L_pick (kl k) (kg k) h ad M adN N adE E (a2 >>> (4 &&& 31)) hn1
  rw [← ez2] at hc
  refine x_catWS (st := []) (st2 := [.int z2.1]) (pc' := 7) (wcs := [wMa h ad M, wSt (kg k) (ad 0) adN N, wRe (kg k) (ad 5) adE E]) (wrs := [wSt (kg k) (ad 1) adF F, wHi (kg k) (ad 4) adQ Q, wOr (kg k) (ad 6) adO O]) (wcs' := [wMa h ad M, wSt (kg k) (ad 0) adN N, wRe (kg k) (ad 5) adE z2.2]) C B [wMa h ad M, wSt (kg k) (ad 0) adN N, wSt (kg k) (ad 1) adF F, wHi (kg k) (ad 4) adQ Q, wRe (kg k) (ad 5) adE z2.2, wOr (kg k) (ad 6) adO O] hc rfl rfl cw_L_19 ok_L_pick (by decide) [2, 3, 5, 0, 1, 4] [3, 4, 0, 1, 5, 2] rfl rfl rfl rfl rfl (Nat.le_of_ble_eq_true rfl) (Nat.zero_le _) (Nat.zero_le _) rfl dL_does_4 rfl rfl ?_
  refine x_istore_n (pc' := 8) (L' := [some (.ref h), some (.int a2), some (.int z2.1), none, none, none]) C dL_does_7 rfl rfl (Nat.le_of_ble_eq_true rfl) rfl ?_
  refine x_aload_n (pc' := 9) C dL_does_8 rfl rfl rfl ?_
  refine x_iload_n (pc' := 10) C dL_does_9 rfl rfl rfl ?_
  refine x_bipush (v := 7) (pc' := 12) C dL_does_10 rfl (by decide) ?_
  refine x_ishr (pc' := 13) (v := (a2 >>> (7 &&& 31))) C dL_does_12 rfl rfl ?_
  obtain ⟨hn3, hok⟩ := hok
  obtain ⟨z4, ez4⟩ : ∃ z, z = (f_L_pick M N z2.2 (a2 >>> (7 &&& 31))) := ⟨_, rfl⟩
  replace hRES := bd hRES z4 ez4
  replace hok := bdP hok z4 ez4
  have hc := c_L_pick (kl k) (kg k) h ad M adN N adE z2.2 (a2 >>> (7 &&& 31)) hn3
  rw [← ez4] at hc
  refine x_catWS (st := []) (st2 := [.int z4.1]) (pc' := 16) (wcs := [wMa h ad M, wSt (kg k) (ad 0) adN N, wRe (kg k) (ad 5) adE z2.2]) (wrs := [wSt (kg k) (ad 1) adF F, wHi (kg k) (ad 4) adQ Q, wOr (kg k) (ad 6) adO O]) (wcs' := [wMa h ad M, wSt (kg k) (ad 0) adN N, wRe (kg k) (ad 5) adE z4.2]) C B [wMa h ad M, wSt (kg k) (ad 0) adN N, wSt (kg k) (ad 1) adF F, wHi (kg k) (ad 4) adQ Q, wRe (kg k) (ad 5) adE z4.2, wOr (kg k) (ad 6) adO O] hc rfl rfl cw_L_19 ok_L_pick (by decide) [2, 3, 5, 0, 1, 4] [3, 4, 0, 1, 5, 2] rfl rfl rfl rfl rfl (Nat.le_of_ble_eq_true rfl) (Nat.zero_le _) (Nat.zero_le _) rfl dL_does_13 rfl rfl ?_
  refine x_istore_n (pc' := 17) (L' := [some (.ref h), some (.int a2), some (.int z2.1), some (.int z4.1), none, none]) C dL_does_16 rfl rfl (Nat.le_of_ble_eq_true rfl) rfl ?_
  refine x_iconst (v := 0) (pc' := 18) C dL_does_17 rfl (by decide) ?_
  refine x_istore (pc' := 20) (L' := [some (.ref h), some (.int a2), some (.int z2.1), some (.int z4.1), some (.int 0), none]) C dL_does_18 rfl (Nat.le_of_ble_eq_true rfl) rfl ?_
  refine x_iload_n (pc' := 21) C dL_does_20 rfl rfl rfl ?_
  refine x_bipush (v := 15) (pc' := 23) C dL_does_21 rfl (by decide) ?_
  refine x_iand (pc' := 24) (v := (a2 &&& 15)) C dL_does_23 rfl rfl ?_
  by_cases c5 : (a2 &&& 15) = 0
  · rw [if_pos c5] at hRES
    replace hok := hok.1 c5
    refine x_tabIn (off := 64) (tgt := 88) C (0) dL_does_24 (by rw [c5]; decide) (by decide) (by decide) rfl (by decide) ?_
    refine x_aload_n (pc' := 89) C dL_does_88 rfl rfl rfl ?_
    refine x_iconst (v := 0) (pc' := 90) C dL_does_89 rfl (by decide) ?_
    obtain ⟨z6, ez6⟩ : ∃ z, z = (f_X6_count M N Q z4.2 O 0) := ⟨_, rfl⟩
    replace hRES := bd hRES z6 ez6
    replace hok := bdP hok z6 ez6
    have hc := c_X6_count (kl k) (kg k) h ad M adN N adQ Q adE z4.2 adO O 0
    rw [← ez6] at hc
    refine x_catWV (st := []) (st2 := [.int z6.1]) (pc' := 93) (wcs := [wMa h ad M, wSt (kg k) (ad 0) adN N, wHi (kg k) (ad 4) adQ Q, wRe (kg k) (ad 5) adE z4.2, wOr (kg k) (ad 6) adO O]) (wrs := [wSt (kg k) (ad 1) adF F]) (wcs' := [wMa h ad M, wSt (kg k) (ad 0) adN N, wHi (kg k) (ad 4) adQ Q, wRe (kg k) (ad 5) adE z6.2, wOr (kg k) (ad 6) adO O]) C B [wMa h ad M, wSt (kg k) (ad 0) adN N, wSt (kg k) (ad 1) adF F, wHi (kg k) (ad 4) adQ Q, wRe (kg k) (ad 5) adE z6.2, wOr (kg k) (ad 6) adO O] hc rfl rfl cw_L_23 ok_X6_count rfl (by decide) rfl rfl [2, 0, 1, 3, 4, 5] [1, 2, 0, 3, 4, 5] rfl rfl rfl rfl rfl (Nat.le_of_ble_eq_true rfl) (Nat.zero_le _) (Nat.zero_le _) rfl dL_does_90 rfl rfl ?_
    refine x_bipush (v := 14) (pc' := 95) C dL_does_93 rfl (by decide) ?_
    refine x_icmp_ne (tgt := 102) (pc' := 98) C dL_does_95 (by decide) rfl (fun c7 => ?_) (fun c7 => ?_)
    · rw [if_neg c7] at hRES
      replace hok := hok.2 c7
      refine x_aload_n (pc' := 103) C dL_does_102 rfl rfl rfl ?_
      refine x_iload_n (pc' := 104) C dL_does_103 rfl rfl rfl ?_
      refine x_iload_n (pc' := 105) C dL_does_104 rfl rfl rfl ?_
      refine x_bipush (v := 8) (pc' := 107) C dL_does_105 rfl (by decide) ?_
      refine x_ishr (pc' := 108) (v := (a2 >>> (8 &&& 31))) C dL_does_107 rfl rfl ?_
      refine x_bipush (v := 8) (pc' := 110) C dL_does_108 rfl (by decide) ?_
      obtain ⟨hn8, hok⟩ := hok
      refine x_RS (st := [.int z2.1, .ref h]) (st2 := [.int (f_L_low (a2 >>> (8 &&& 31)) 8), .int z2.1, .ref h]) (pc' := 113) C (c_L_low (kl k) (kg k) (a2 >>> (8 &&& 31)) 8 hn8) cw_L_8 ok_L_low (by decide) [] rfl rfl rfl (Nat.le_of_ble_eq_true rfl) (Nat.zero_le _) (Nat.zero_le _) rfl dL_does_110 rfl rfl ?_
      refine x_iload_n (pc' := 114) C dL_does_113 rfl rfl rfl ?_
      refine x_bipush (v := 11) (pc' := 116) C dL_does_114 rfl (by decide) ?_
      refine x_ishr (pc' := 117) (v := (a2 >>> (11 &&& 31))) C dL_does_116 rfl rfl ?_
      refine x_iconst (v := 4) (pc' := 118) C dL_does_117 rfl (by decide) ?_
      obtain ⟨hn9, hok⟩ := hok
      refine x_RS (st := [.int (f_L_low (a2 >>> (8 &&& 31)) 8), .int z2.1, .ref h]) (st2 := [.int (f_L_low (a2 >>> (11 &&& 31)) 4), .int (f_L_low (a2 >>> (8 &&& 31)) 8), .int z2.1, .ref h]) (pc' := 121) C (c_L_low (kl k) (kg k) (a2 >>> (11 &&& 31)) 4 hn9) cw_L_8 ok_L_low (by decide) [] rfl rfl rfl (Nat.le_of_ble_eq_true rfl) (Nat.zero_le _) (Nat.zero_le _) rfl dL_does_118 rfl rfl ?_
      obtain ⟨hn10, hok⟩ := hok
      obtain ⟨z11, ez11⟩ : ∃ z, z = (f_X6_make M N F Q z2.1 (f_L_low (a2 >>> (8 &&& 31)) 8) (f_L_low (a2 >>> (11 &&& 31)) 4)) := ⟨_, rfl⟩
      replace hRES := bd hRES z11 ez11
      replace hok := bdP hok z11 ez11
      have hc := c_X6_make (kl k) (kg k) h ad M adN N adF F adQ Q z2.1 (f_L_low (a2 >>> (8 &&& 31)) 8) (f_L_low (a2 >>> (11 &&& 31)) 4) hn10
      rw [← ez11] at hc
      refine x_catWV (st := []) (st2 := [.int z11.1]) (pc' := 124) (wcs := [wMa h ad M, wSt (kg k) (ad 0) adN N, wSt (kg k) (ad 1) adF F, wHi (kg k) (ad 4) adQ Q]) (wrs := [wRe (kg k) (ad 5) adE z6.2, wOr (kg k) (ad 6) adO O]) (wcs' := [wMa h ad M, wSt (kg k) (ad 0) adN z11.2.1, wSt (kg k) (ad 1) adF z11.2.2.1, wHi (kg k) (ad 4) adQ z11.2.2.2]) C B [wMa h ad M, wSt (kg k) (ad 0) adN z11.2.1, wSt (kg k) (ad 1) adF z11.2.2.1, wHi (kg k) (ad 4) adQ z11.2.2.2, wRe (kg k) (ad 5) adE z6.2, wOr (kg k) (ad 6) adO O] hc rfl rfl cw_L_27 ok_X6_make rfl (by decide) rfl rfl [4, 5, 0, 1, 2, 3] [2, 3, 4, 5, 0, 1] rfl rfl rfl rfl rfl (Nat.le_of_ble_eq_true rfl) (Nat.zero_le _) (Nat.zero_le _) rfl dL_does_121 rfl rfl ?_
      exact x_iret C (Nat.zero_le _) (Nat.zero_le _) dL_does_124 ⟨by rw [hRES], by rw [hRES]⟩
    · rw [if_pos c7] at hRES
      replace hok := hok.1 c7
      refine x_iconst (v := 0) (pc' := 99) C dL_does_98 rfl (by decide) ?_
      refine x_goto (tgt := 124) C dL_does_99 (by decide) ?_
      exact x_iret C (Nat.zero_le _) (Nat.zero_le _) dL_does_124 ⟨by rw [hRES], by rw [hRES]⟩
  · rw [if_neg c5] at hRES
    replace hok := hok.2 c5
    by_cases c12 : (a2 &&& 15) = 1
    · rw [if_pos c12] at hRES
      replace hok := hok.1 c12
      refine x_tabIn (off := 64) (tgt := 88) C (1) dL_does_24 (by rw [c12]; decide) (by decide) (by decide) rfl (by decide) ?_
      refine x_aload_n (pc' := 89) C dL_does_88 rfl rfl rfl ?_
      refine x_iconst (v := 0) (pc' := 90) C dL_does_89 rfl (by decide) ?_
      obtain ⟨z13, ez13⟩ : ∃ z, z = (f_X6_count M N Q z4.2 O 0) := ⟨_, rfl⟩
      replace hRES := bd hRES z13 ez13
      replace hok := bdP hok z13 ez13
      have hc := c_X6_count (kl k) (kg k) h ad M adN N adQ Q adE z4.2 adO O 0
      rw [← ez13] at hc
      refine x_catWV (st := []) (st2 := [.int z13.1]) (pc' := 93) (wcs := [wMa h ad M, wSt (kg k) (ad 0) adN N, wHi (kg k) (ad 4) adQ Q, wRe (kg k) (ad 5) adE z4.2, wOr (kg k) (ad 6) adO O]) (wrs := [wSt (kg k) (ad 1) adF F]) (wcs' := [wMa h ad M, wSt (kg k) (ad 0) adN N, wHi (kg k) (ad 4) adQ Q, wRe (kg k) (ad 5) adE z13.2, wOr (kg k) (ad 6) adO O]) C B [wMa h ad M, wSt (kg k) (ad 0) adN N, wSt (kg k) (ad 1) adF F, wHi (kg k) (ad 4) adQ Q, wRe (kg k) (ad 5) adE z13.2, wOr (kg k) (ad 6) adO O] hc rfl rfl cw_L_23 ok_X6_count rfl (by decide) rfl rfl [2, 0, 1, 3, 4, 5] [1, 2, 0, 3, 4, 5] rfl rfl rfl rfl rfl (Nat.le_of_ble_eq_true rfl) (Nat.zero_le _) (Nat.zero_le _) rfl dL_does_90 rfl rfl ?_
      refine x_bipush (v := 14) (pc' := 95) C dL_does_93 rfl (by decide) ?_
      refine x_icmp_ne (tgt := 102) (pc' := 98) C dL_does_95 (by decide) rfl (fun c14 => ?_) (fun c14 => ?_)
      · rw [if_neg c14] at hRES
        replace hok := hok.2 c14
        refine x_aload_n (pc' := 103) C dL_does_102 rfl rfl rfl ?_
        refine x_iload_n (pc' := 104) C dL_does_103 rfl rfl rfl ?_
        refine x_iload_n (pc' := 105) C dL_does_104 rfl rfl rfl ?_
        refine x_bipush (v := 8) (pc' := 107) C dL_does_105 rfl (by decide) ?_
        refine x_ishr (pc' := 108) (v := (a2 >>> (8 &&& 31))) C dL_does_107 rfl rfl ?_
        refine x_bipush (v := 8) (pc' := 110) C dL_does_108 rfl (by decide) ?_
        obtain ⟨hn15, hok⟩ := hok
        refine x_RS (st := [.int z2.1, .ref h]) (st2 := [.int (f_L_low (a2 >>> (8 &&& 31)) 8), .int z2.1, .ref h]) (pc' := 113) C (c_L_low (kl k) (kg k) (a2 >>> (8 &&& 31)) 8 hn15) cw_L_8 ok_L_low (by decide) [] rfl rfl rfl (Nat.le_of_ble_eq_true rfl) (Nat.zero_le _) (Nat.zero_le _) rfl dL_does_110 rfl rfl ?_
        refine x_iload_n (pc' := 114) C dL_does_113 rfl rfl rfl ?_
        refine x_bipush (v := 11) (pc' := 116) C dL_does_114 rfl (by decide) ?_
        refine x_ishr (pc' := 117) (v := (a2 >>> (11 &&& 31))) C dL_does_116 rfl rfl ?_
        refine x_iconst (v := 4) (pc' := 118) C dL_does_117 rfl (by decide) ?_
        obtain ⟨hn16, hok⟩ := hok
        refine x_RS (st := [.int (f_L_low (a2 >>> (8 &&& 31)) 8), .int z2.1, .ref h]) (st2 := [.int (f_L_low (a2 >>> (11 &&& 31)) 4), .int (f_L_low (a2 >>> (8 &&& 31)) 8), .int z2.1, .ref h]) (pc' := 121) C (c_L_low (kl k) (kg k) (a2 >>> (11 &&& 31)) 4 hn16) cw_L_8 ok_L_low (by decide) [] rfl rfl rfl (Nat.le_of_ble_eq_true rfl) (Nat.zero_le _) (Nat.zero_le _) rfl dL_does_118 rfl rfl ?_
        obtain ⟨hn17, hok⟩ := hok
        obtain ⟨z18, ez18⟩ : ∃ z, z = (f_X6_make M N F Q z2.1 (f_L_low (a2 >>> (8 &&& 31)) 8) (f_L_low (a2 >>> (11 &&& 31)) 4)) := ⟨_, rfl⟩
        replace hRES := bd hRES z18 ez18
        replace hok := bdP hok z18 ez18
        have hc := c_X6_make (kl k) (kg k) h ad M adN N adF F adQ Q z2.1 (f_L_low (a2 >>> (8 &&& 31)) 8) (f_L_low (a2 >>> (11 &&& 31)) 4) hn17
        rw [← ez18] at hc
        refine x_catWV (st := []) (st2 := [.int z18.1]) (pc' := 124) (wcs := [wMa h ad M, wSt (kg k) (ad 0) adN N, wSt (kg k) (ad 1) adF F, wHi (kg k) (ad 4) adQ Q]) (wrs := [wRe (kg k) (ad 5) adE z13.2, wOr (kg k) (ad 6) adO O]) (wcs' := [wMa h ad M, wSt (kg k) (ad 0) adN z18.2.1, wSt (kg k) (ad 1) adF z18.2.2.1, wHi (kg k) (ad 4) adQ z18.2.2.2]) C B [wMa h ad M, wSt (kg k) (ad 0) adN z18.2.1, wSt (kg k) (ad 1) adF z18.2.2.1, wHi (kg k) (ad 4) adQ z18.2.2.2, wRe (kg k) (ad 5) adE z13.2, wOr (kg k) (ad 6) adO O] hc rfl rfl cw_L_27 ok_X6_make rfl (by decide) rfl rfl [4, 5, 0, 1, 2, 3] [2, 3, 4, 5, 0, 1] rfl rfl rfl rfl rfl (Nat.le_of_ble_eq_true rfl) (Nat.zero_le _) (Nat.zero_le _) rfl dL_does_121 rfl rfl ?_
        exact x_iret C (Nat.zero_le _) (Nat.zero_le _) dL_does_124 ⟨by rw [hRES], by rw [hRES]⟩
      · rw [if_pos c14] at hRES
        replace hok := hok.1 c14
        refine x_iconst (v := 0) (pc' := 99) C dL_does_98 rfl (by decide) ?_
        refine x_goto (tgt := 124) C dL_does_99 (by decide) ?_
        exact x_iret C (Nat.zero_le _) (Nat.zero_le _) dL_does_124 ⟨by rw [hRES], by rw [hRES]⟩
    · rw [if_neg c12] at hRES
      replace hok := hok.2 c12
      by_cases c19 : (a2 &&& 15) = 2
      · rw [if_pos c19] at hRES
        replace hok := hok.1 c19
        refine x_tabIn (off := 64) (tgt := 88) C (2) dL_does_24 (by rw [c19]; decide) (by decide) (by decide) rfl (by decide) ?_
        refine x_aload_n (pc' := 89) C dL_does_88 rfl rfl rfl ?_
        refine x_iconst (v := 0) (pc' := 90) C dL_does_89 rfl (by decide) ?_
        obtain ⟨z20, ez20⟩ : ∃ z, z = (f_X6_count M N Q z4.2 O 0) := ⟨_, rfl⟩
        replace hRES := bd hRES z20 ez20
        replace hok := bdP hok z20 ez20
        have hc := c_X6_count (kl k) (kg k) h ad M adN N adQ Q adE z4.2 adO O 0
        rw [← ez20] at hc
        refine x_catWV (st := []) (st2 := [.int z20.1]) (pc' := 93) (wcs := [wMa h ad M, wSt (kg k) (ad 0) adN N, wHi (kg k) (ad 4) adQ Q, wRe (kg k) (ad 5) adE z4.2, wOr (kg k) (ad 6) adO O]) (wrs := [wSt (kg k) (ad 1) adF F]) (wcs' := [wMa h ad M, wSt (kg k) (ad 0) adN N, wHi (kg k) (ad 4) adQ Q, wRe (kg k) (ad 5) adE z20.2, wOr (kg k) (ad 6) adO O]) C B [wMa h ad M, wSt (kg k) (ad 0) adN N, wSt (kg k) (ad 1) adF F, wHi (kg k) (ad 4) adQ Q, wRe (kg k) (ad 5) adE z20.2, wOr (kg k) (ad 6) adO O] hc rfl rfl cw_L_23 ok_X6_count rfl (by decide) rfl rfl [2, 0, 1, 3, 4, 5] [1, 2, 0, 3, 4, 5] rfl rfl rfl rfl rfl (Nat.le_of_ble_eq_true rfl) (Nat.zero_le _) (Nat.zero_le _) rfl dL_does_90 rfl rfl ?_
        refine x_bipush (v := 14) (pc' := 95) C dL_does_93 rfl (by decide) ?_
        refine x_icmp_ne (tgt := 102) (pc' := 98) C dL_does_95 (by decide) rfl (fun c21 => ?_) (fun c21 => ?_)
        · rw [if_neg c21] at hRES
          replace hok := hok.2 c21
          refine x_aload_n (pc' := 103) C dL_does_102 rfl rfl rfl ?_
          refine x_iload_n (pc' := 104) C dL_does_103 rfl rfl rfl ?_
          refine x_iload_n (pc' := 105) C dL_does_104 rfl rfl rfl ?_
          refine x_bipush (v := 8) (pc' := 107) C dL_does_105 rfl (by decide) ?_
          refine x_ishr (pc' := 108) (v := (a2 >>> (8 &&& 31))) C dL_does_107 rfl rfl ?_
          refine x_bipush (v := 8) (pc' := 110) C dL_does_108 rfl (by decide) ?_
          obtain ⟨hn22, hok⟩ := hok
          refine x_RS (st := [.int z2.1, .ref h]) (st2 := [.int (f_L_low (a2 >>> (8 &&& 31)) 8), .int z2.1, .ref h]) (pc' := 113) C (c_L_low (kl k) (kg k) (a2 >>> (8 &&& 31)) 8 hn22) cw_L_8 ok_L_low (by decide) [] rfl rfl rfl (Nat.le_of_ble_eq_true rfl) (Nat.zero_le _) (Nat.zero_le _) rfl dL_does_110 rfl rfl ?_
          refine x_iload_n (pc' := 114) C dL_does_113 rfl rfl rfl ?_
          refine x_bipush (v := 11) (pc' := 116) C dL_does_114 rfl (by decide) ?_
          refine x_ishr (pc' := 117) (v := (a2 >>> (11 &&& 31))) C dL_does_116 rfl rfl ?_
          refine x_iconst (v := 4) (pc' := 118) C dL_does_117 rfl (by decide) ?_
          obtain ⟨hn23, hok⟩ := hok
          refine x_RS (st := [.int (f_L_low (a2 >>> (8 &&& 31)) 8), .int z2.1, .ref h]) (st2 := [.int (f_L_low (a2 >>> (11 &&& 31)) 4), .int (f_L_low (a2 >>> (8 &&& 31)) 8), .int z2.1, .ref h]) (pc' := 121) C (c_L_low (kl k) (kg k) (a2 >>> (11 &&& 31)) 4 hn23) cw_L_8 ok_L_low (by decide) [] rfl rfl rfl (Nat.le_of_ble_eq_true rfl) (Nat.zero_le _) (Nat.zero_le _) rfl dL_does_118 rfl rfl ?_
          obtain ⟨hn24, hok⟩ := hok
          obtain ⟨z25, ez25⟩ : ∃ z, z = (f_X6_make M N F Q z2.1 (f_L_low (a2 >>> (8 &&& 31)) 8) (f_L_low (a2 >>> (11 &&& 31)) 4)) := ⟨_, rfl⟩
          replace hRES := bd hRES z25 ez25
          replace hok := bdP hok z25 ez25
          have hc := c_X6_make (kl k) (kg k) h ad M adN N adF F adQ Q z2.1 (f_L_low (a2 >>> (8 &&& 31)) 8) (f_L_low (a2 >>> (11 &&& 31)) 4) hn24
          rw [← ez25] at hc
          refine x_catWV (st := []) (st2 := [.int z25.1]) (pc' := 124) (wcs := [wMa h ad M, wSt (kg k) (ad 0) adN N, wSt (kg k) (ad 1) adF F, wHi (kg k) (ad 4) adQ Q]) (wrs := [wRe (kg k) (ad 5) adE z20.2, wOr (kg k) (ad 6) adO O]) (wcs' := [wMa h ad M, wSt (kg k) (ad 0) adN z25.2.1, wSt (kg k) (ad 1) adF z25.2.2.1, wHi (kg k) (ad 4) adQ z25.2.2.2]) C B [wMa h ad M, wSt (kg k) (ad 0) adN z25.2.1, wSt (kg k) (ad 1) adF z25.2.2.1, wHi (kg k) (ad 4) adQ z25.2.2.2, wRe (kg k) (ad 5) adE z20.2, wOr (kg k) (ad 6) adO O] hc rfl rfl cw_L_27 ok_X6_make rfl (by decide) rfl rfl [4, 5, 0, 1, 2, 3] [2, 3, 4, 5, 0, 1] rfl rfl rfl rfl rfl (Nat.le_of_ble_eq_true rfl) (Nat.zero_le _) (Nat.zero_le _) rfl dL_does_121 rfl rfl ?_
          exact x_iret C (Nat.zero_le _) (Nat.zero_le _) dL_does_124 ⟨by rw [hRES], by rw [hRES]⟩
        · rw [if_pos c21] at hRES
          replace hok := hok.1 c21
          refine x_iconst (v := 0) (pc' := 99) C dL_does_98 rfl (by decide) ?_
          refine x_goto (tgt := 124) C dL_does_99 (by decide) ?_
          exact x_iret C (Nat.zero_le _) (Nat.zero_le _) dL_does_124 ⟨by rw [hRES], by rw [hRES]⟩
      · rw [if_neg c19] at hRES
        replace hok := hok.2 c19
        by_cases c26 : (a2 &&& 15) = 3
        · rw [if_pos c26] at hRES
          replace hok := hok.1 c26
          refine x_tabIn (off := 101) (tgt := 125) C (3) dL_does_24 (by rw [c26]; decide) (by decide) (by decide) rfl (by decide) ?_
          refine x_aload_n (pc' := 126) C dL_does_125 rfl rfl rfl ?_
          refine x_iconst (v := 0) (pc' := 127) C dL_does_126 rfl (by decide) ?_
          obtain ⟨z27, ez27⟩ : ∃ z, z = (f_X6_count M N Q z4.2 O 0) := ⟨_, rfl⟩
          replace hRES := bd hRES z27 ez27
          replace hok := bdP hok z27 ez27
          have hc := c_X6_count (kl k) (kg k) h ad M adN N adQ Q adE z4.2 adO O 0
          rw [← ez27] at hc
          refine x_catWV (st := []) (st2 := [.int z27.1]) (pc' := 130) (wcs := [wMa h ad M, wSt (kg k) (ad 0) adN N, wHi (kg k) (ad 4) adQ Q, wRe (kg k) (ad 5) adE z4.2, wOr (kg k) (ad 6) adO O]) (wrs := [wSt (kg k) (ad 1) adF F]) (wcs' := [wMa h ad M, wSt (kg k) (ad 0) adN N, wHi (kg k) (ad 4) adQ Q, wRe (kg k) (ad 5) adE z27.2, wOr (kg k) (ad 6) adO O]) C B [wMa h ad M, wSt (kg k) (ad 0) adN N, wSt (kg k) (ad 1) adF F, wHi (kg k) (ad 4) adQ Q, wRe (kg k) (ad 5) adE z27.2, wOr (kg k) (ad 6) adO O] hc rfl rfl cw_L_23 ok_X6_count rfl (by decide) rfl rfl [2, 0, 1, 3, 4, 5] [1, 2, 0, 3, 4, 5] rfl rfl rfl rfl rfl (Nat.le_of_ble_eq_true rfl) (Nat.zero_le _) (Nat.zero_le _) rfl dL_does_127 rfl rfl ?_
          refine x_bipush (v := 14) (pc' := 132) C dL_does_130 rfl (by decide) ?_
          refine x_icmp_ne (tgt := 139) (pc' := 135) C dL_does_132 (by decide) rfl (fun c28 => ?_) (fun c28 => ?_)
          · rw [if_neg c28] at hRES
            replace hok := hok.2 c28
            refine x_aload_n (pc' := 140) C dL_does_139 rfl rfl rfl ?_
            refine x_iload_n (pc' := 141) C dL_does_140 rfl rfl rfl ?_
            refine x_iload_n (pc' := 142) C dL_does_141 rfl rfl rfl ?_
            refine x_iconst (v := 1) (pc' := 143) C dL_does_142 rfl (by decide) ?_
            refine x_iload_n (pc' := 144) C dL_does_143 rfl rfl rfl ?_
            refine x_bipush (v := 6) (pc' := 146) C dL_does_144 rfl (by decide) ?_
            refine x_ishr (pc' := 147) (v := (a2 >>> (6 &&& 31))) C dL_does_146 rfl rfl ?_
            refine x_sipush (v := 255) (pc' := 150) C dL_does_147 rfl (by decide) ?_
            obtain ⟨hn29, hok⟩ := hok
            refine x_RS (st := [.int 1, .int z4.1, .int z2.1, .ref h]) (st2 := [.int (f_L_low (a2 >>> (6 &&& 31)) 255), .int 1, .int z4.1, .int z2.1, .ref h]) (pc' := 153) C (c_L_low (kl k) (kg k) (a2 >>> (6 &&& 31)) 255 hn29) cw_L_8 ok_L_low (by decide) [] rfl rfl rfl (Nat.le_of_ble_eq_true rfl) (Nat.zero_le _) (Nat.zero_le _) rfl dL_does_150 rfl rfl ?_
            refine x_iadd (pc' := 154) (v := ((1 : Int32) + (f_L_low (a2 >>> (6 &&& 31)) 255))) C dL_does_153 rfl rfl ?_
            obtain ⟨hn30, hok⟩ := hok
            obtain ⟨z31, ez31⟩ : ∃ z, z = (f_X6_mix M N F Q z2.1 z4.1 ((1 : Int32) + (f_L_low (a2 >>> (6 &&& 31)) 255))) := ⟨_, rfl⟩
            replace hRES := bd hRES z31 ez31
            replace hok := bdP hok z31 ez31
            have hc := c_X6_mix (kl k) (kg k) h ad M adN N adF F adQ Q z2.1 z4.1 ((1 : Int32) + (f_L_low (a2 >>> (6 &&& 31)) 255)) hn30
            rw [← ez31] at hc
            refine x_catWV (st := []) (st2 := [.int z31.1]) (pc' := 157) (wcs := [wMa h ad M, wSt (kg k) (ad 0) adN N, wSt (kg k) (ad 1) adF F, wHi (kg k) (ad 4) adQ Q]) (wrs := [wRe (kg k) (ad 5) adE z27.2, wOr (kg k) (ad 6) adO O]) (wcs' := [wMa h ad M, wSt (kg k) (ad 0) adN z31.2.1, wSt (kg k) (ad 1) adF z31.2.2.1, wHi (kg k) (ad 4) adQ z31.2.2.2]) C B [wMa h ad M, wSt (kg k) (ad 0) adN z31.2.1, wSt (kg k) (ad 1) adF z31.2.2.1, wHi (kg k) (ad 4) adQ z31.2.2.2, wRe (kg k) (ad 5) adE z27.2, wOr (kg k) (ad 6) adO O] hc rfl rfl cw_L_31 ok_X6_mix rfl (by decide) rfl rfl [4, 5, 0, 1, 2, 3] [2, 3, 4, 5, 0, 1] rfl rfl rfl rfl rfl (Nat.le_of_ble_eq_true rfl) (Nat.zero_le _) (Nat.zero_le _) rfl dL_does_154 rfl rfl ?_
            exact x_iret C (Nat.zero_le _) (Nat.zero_le _) dL_does_157 ⟨by rw [hRES], by rw [hRES]⟩
          · rw [if_pos c28] at hRES
            replace hok := hok.1 c28
            refine x_iconst (v := 0) (pc' := 136) C dL_does_135 rfl (by decide) ?_
            refine x_goto (tgt := 157) C dL_does_136 (by decide) ?_
            exact x_iret C (Nat.zero_le _) (Nat.zero_le _) dL_does_157 ⟨by rw [hRES], by rw [hRES]⟩
        · rw [if_neg c26] at hRES
          replace hok := hok.2 c26
          by_cases c32 : (a2 &&& 15) = 4
          · rw [if_pos c32] at hRES
            replace hok := hok.1 c32
            refine x_tabIn (off := 101) (tgt := 125) C (4) dL_does_24 (by rw [c32]; decide) (by decide) (by decide) rfl (by decide) ?_
            refine x_aload_n (pc' := 126) C dL_does_125 rfl rfl rfl ?_
            refine x_iconst (v := 0) (pc' := 127) C dL_does_126 rfl (by decide) ?_
            obtain ⟨z33, ez33⟩ : ∃ z, z = (f_X6_count M N Q z4.2 O 0) := ⟨_, rfl⟩
            replace hRES := bd hRES z33 ez33
            replace hok := bdP hok z33 ez33
            have hc := c_X6_count (kl k) (kg k) h ad M adN N adQ Q adE z4.2 adO O 0
            rw [← ez33] at hc
            refine x_catWV (st := []) (st2 := [.int z33.1]) (pc' := 130) (wcs := [wMa h ad M, wSt (kg k) (ad 0) adN N, wHi (kg k) (ad 4) adQ Q, wRe (kg k) (ad 5) adE z4.2, wOr (kg k) (ad 6) adO O]) (wrs := [wSt (kg k) (ad 1) adF F]) (wcs' := [wMa h ad M, wSt (kg k) (ad 0) adN N, wHi (kg k) (ad 4) adQ Q, wRe (kg k) (ad 5) adE z33.2, wOr (kg k) (ad 6) adO O]) C B [wMa h ad M, wSt (kg k) (ad 0) adN N, wSt (kg k) (ad 1) adF F, wHi (kg k) (ad 4) adQ Q, wRe (kg k) (ad 5) adE z33.2, wOr (kg k) (ad 6) adO O] hc rfl rfl cw_L_23 ok_X6_count rfl (by decide) rfl rfl [2, 0, 1, 3, 4, 5] [1, 2, 0, 3, 4, 5] rfl rfl rfl rfl rfl (Nat.le_of_ble_eq_true rfl) (Nat.zero_le _) (Nat.zero_le _) rfl dL_does_127 rfl rfl ?_
            refine x_bipush (v := 14) (pc' := 132) C dL_does_130 rfl (by decide) ?_
            refine x_icmp_ne (tgt := 139) (pc' := 135) C dL_does_132 (by decide) rfl (fun c34 => ?_) (fun c34 => ?_)
            · rw [if_neg c34] at hRES
              replace hok := hok.2 c34
              refine x_aload_n (pc' := 140) C dL_does_139 rfl rfl rfl ?_
              refine x_iload_n (pc' := 141) C dL_does_140 rfl rfl rfl ?_
              refine x_iload_n (pc' := 142) C dL_does_141 rfl rfl rfl ?_
              refine x_iconst (v := 1) (pc' := 143) C dL_does_142 rfl (by decide) ?_
              refine x_iload_n (pc' := 144) C dL_does_143 rfl rfl rfl ?_
              refine x_bipush (v := 6) (pc' := 146) C dL_does_144 rfl (by decide) ?_
              refine x_ishr (pc' := 147) (v := (a2 >>> (6 &&& 31))) C dL_does_146 rfl rfl ?_
              refine x_sipush (v := 255) (pc' := 150) C dL_does_147 rfl (by decide) ?_
              obtain ⟨hn35, hok⟩ := hok
              refine x_RS (st := [.int 1, .int z4.1, .int z2.1, .ref h]) (st2 := [.int (f_L_low (a2 >>> (6 &&& 31)) 255), .int 1, .int z4.1, .int z2.1, .ref h]) (pc' := 153) C (c_L_low (kl k) (kg k) (a2 >>> (6 &&& 31)) 255 hn35) cw_L_8 ok_L_low (by decide) [] rfl rfl rfl (Nat.le_of_ble_eq_true rfl) (Nat.zero_le _) (Nat.zero_le _) rfl dL_does_150 rfl rfl ?_
              refine x_iadd (pc' := 154) (v := ((1 : Int32) + (f_L_low (a2 >>> (6 &&& 31)) 255))) C dL_does_153 rfl rfl ?_
              obtain ⟨hn36, hok⟩ := hok
              obtain ⟨z37, ez37⟩ : ∃ z, z = (f_X6_mix M N F Q z2.1 z4.1 ((1 : Int32) + (f_L_low (a2 >>> (6 &&& 31)) 255))) := ⟨_, rfl⟩
              replace hRES := bd hRES z37 ez37
              replace hok := bdP hok z37 ez37
              have hc := c_X6_mix (kl k) (kg k) h ad M adN N adF F adQ Q z2.1 z4.1 ((1 : Int32) + (f_L_low (a2 >>> (6 &&& 31)) 255)) hn36
              rw [← ez37] at hc
              refine x_catWV (st := []) (st2 := [.int z37.1]) (pc' := 157) (wcs := [wMa h ad M, wSt (kg k) (ad 0) adN N, wSt (kg k) (ad 1) adF F, wHi (kg k) (ad 4) adQ Q]) (wrs := [wRe (kg k) (ad 5) adE z33.2, wOr (kg k) (ad 6) adO O]) (wcs' := [wMa h ad M, wSt (kg k) (ad 0) adN z37.2.1, wSt (kg k) (ad 1) adF z37.2.2.1, wHi (kg k) (ad 4) adQ z37.2.2.2]) C B [wMa h ad M, wSt (kg k) (ad 0) adN z37.2.1, wSt (kg k) (ad 1) adF z37.2.2.1, wHi (kg k) (ad 4) adQ z37.2.2.2, wRe (kg k) (ad 5) adE z33.2, wOr (kg k) (ad 6) adO O] hc rfl rfl cw_L_31 ok_X6_mix rfl (by decide) rfl rfl [4, 5, 0, 1, 2, 3] [2, 3, 4, 5, 0, 1] rfl rfl rfl rfl rfl (Nat.le_of_ble_eq_true rfl) (Nat.zero_le _) (Nat.zero_le _) rfl dL_does_154 rfl rfl ?_
              exact x_iret C (Nat.zero_le _) (Nat.zero_le _) dL_does_157 ⟨by rw [hRES], by rw [hRES]⟩
            · rw [if_pos c34] at hRES
              replace hok := hok.1 c34
              refine x_iconst (v := 0) (pc' := 136) C dL_does_135 rfl (by decide) ?_
              refine x_goto (tgt := 157) C dL_does_136 (by decide) ?_
              exact x_iret C (Nat.zero_le _) (Nat.zero_le _) dL_does_157 ⟨by rw [hRES], by rw [hRES]⟩
          · rw [if_neg c32] at hRES
            replace hok := hok.2 c32
            by_cases c38 : (a2 &&& 15) = 5
            · rw [if_pos c38] at hRES
              replace hok := hok.1 c38
              refine x_tabIn (off := 134) (tgt := 158) C (5) dL_does_24 (by rw [c38]; decide) (by decide) (by decide) rfl (by decide) ?_
              refine x_aload_n (pc' := 159) C dL_does_158 rfl rfl rfl ?_
              refine x_iload_n (pc' := 160) C dL_does_159 rfl rfl rfl ?_
              obtain ⟨hn39, hok⟩ := hok
              obtain ⟨z40, ez40⟩ : ∃ z, z = (f_X6_remove M N F Q z2.1) := ⟨_, rfl⟩
              replace hRES := bd hRES z40 ez40
              replace hok := bdP hok z40 ez40
              have hc := c_X6_remove (kl k) (kg k) h ad M adN N adF F adQ Q z2.1 hn39
              rw [← ez40] at hc
              refine x_catWV (st := []) (st2 := [.int z40.1]) (pc' := 163) (wcs := [wMa h ad M, wSt (kg k) (ad 0) adN N, wSt (kg k) (ad 1) adF F, wHi (kg k) (ad 4) adQ Q]) (wrs := [wRe (kg k) (ad 5) adE z4.2, wOr (kg k) (ad 6) adO O]) (wcs' := [wMa h ad M, wSt (kg k) (ad 0) adN z40.2.1, wSt (kg k) (ad 1) adF z40.2.2.1, wHi (kg k) (ad 4) adQ z40.2.2.2]) C B [wMa h ad M, wSt (kg k) (ad 0) adN z40.2.1, wSt (kg k) (ad 1) adF z40.2.2.1, wHi (kg k) (ad 4) adQ z40.2.2.2, wRe (kg k) (ad 5) adE z4.2, wOr (kg k) (ad 6) adO O] hc rfl rfl cw_L_34 ok_X6_remove rfl (by decide) rfl rfl [4, 5, 0, 1, 2, 3] [2, 3, 4, 5, 0, 1] rfl rfl rfl rfl rfl (Nat.le_of_ble_eq_true rfl) (Nat.zero_le _) (Nat.zero_le _) rfl dL_does_160 rfl rfl ?_
              refine x_istore (pc' := 165) (L' := [some (.ref h), some (.int a2), some (.int z2.1), some (.int z4.1), some (.int z40.1), none]) C dL_does_163 rfl (Nat.le_of_ble_eq_true rfl) rfl ?_
              refine x_iload (pc' := 167) C dL_does_165 rfl rfl ?_
              refine x_bipush (v := (-4)) (pc' := 169) C dL_does_167 rfl (by decide) ?_
              refine x_icmp_ne (tgt := 176) (pc' := 172) C dL_does_169 (by decide) rfl (fun c41 => ?_) (fun c41 => ?_)
              · rw [if_neg c41] at hRES
                replace hok := hok.2 c41
                refine x_iload (pc' := 178) C dL_does_176 rfl rfl ?_
                exact x_iret C (Nat.zero_le _) (Nat.zero_le _) dL_does_178 ⟨by rw [hRES], by rw [hRES]⟩
              · rw [if_pos c41] at hRES
                replace hok := hok.1 c41
                refine x_iconst (v := 0) (pc' := 173) C dL_does_172 rfl (by decide) ?_
                refine x_goto (tgt := 178) C dL_does_173 (by decide) ?_
                exact x_iret C (Nat.zero_le _) (Nat.zero_le _) dL_does_178 ⟨by rw [hRES], by rw [hRES]⟩
            · rw [if_neg c38] at hRES
              replace hok := hok.2 c38
              by_cases c42 : (a2 &&& 15) = 6
              · rw [if_pos c42] at hRES
                replace hok := hok.1 c42
                refine x_tabIn (off := 155) (tgt := 179) C (6) dL_does_24 (by rw [c42]; decide) (by decide) (by decide) rfl (by decide) ?_
                refine x_aload_n (pc' := 180) C dL_does_179 rfl rfl rfl ?_
                refine x_iload_n (pc' := 181) C dL_does_180 rfl rfl rfl ?_
                obtain ⟨hn43, hok⟩ := hok
                obtain ⟨z44, ez44⟩ : ∃ z, z = (f_X6_root M N F Q z4.2 z2.1) := ⟨_, rfl⟩
                replace hRES := bd hRES z44 ez44
                replace hok := bdP hok z44 ez44
                have hc := c_X6_root (kl k) (kg k) h ad M adN N adF F adQ Q adE z4.2 z2.1 hn43
                rw [← ez44] at hc
                refine x_catWV (st := []) (st2 := [.int z44.1]) (pc' := 184) (wcs := [wMa h ad M, wSt (kg k) (ad 0) adN N, wSt (kg k) (ad 1) adF F, wHi (kg k) (ad 4) adQ Q, wRe (kg k) (ad 5) adE z4.2]) (wrs := [wOr (kg k) (ad 6) adO O]) (wcs' := [wMa h ad M, wSt (kg k) (ad 0) adN z44.2.1, wSt (kg k) (ad 1) adF z44.2.2.1, wHi (kg k) (ad 4) adQ z44.2.2.2.1, wRe (kg k) (ad 5) adE z44.2.2.2.2]) C B [wMa h ad M, wSt (kg k) (ad 0) adN z44.2.1, wSt (kg k) (ad 1) adF z44.2.2.1, wHi (kg k) (ad 4) adQ z44.2.2.2.1, wRe (kg k) (ad 5) adE z44.2.2.2.2, wOr (kg k) (ad 6) adO O] hc rfl rfl cw_L_37 ok_X6_root rfl (by decide) rfl rfl [5, 0, 1, 2, 3, 4] [1, 2, 3, 4, 5, 0] rfl rfl rfl rfl rfl (Nat.le_of_ble_eq_true rfl) (Nat.zero_le _) (Nat.zero_le _) rfl dL_does_181 rfl rfl ?_
                refine x_istore (pc' := 186) (L' := [some (.ref h), some (.int a2), some (.int z2.1), some (.int z4.1), some (.int z44.1), none]) C dL_does_184 rfl (Nat.le_of_ble_eq_true rfl) rfl ?_
                refine x_iload (pc' := 188) C dL_does_186 rfl rfl ?_
                refine x_bipush (v := (-5)) (pc' := 190) C dL_does_188 rfl (by decide) ?_
                refine x_icmp_ne (tgt := 197) (pc' := 193) C dL_does_190 (by decide) rfl (fun c45 => ?_) (fun c45 => ?_)
                · rw [if_neg c45] at hRES
                  replace hok := hok.2 c45
                  refine x_iload (pc' := 199) C dL_does_197 rfl rfl ?_
                  exact x_iret C (Nat.zero_le _) (Nat.zero_le _) dL_does_199 ⟨by rw [hRES], by rw [hRES]⟩
                · rw [if_pos c45] at hRES
                  replace hok := hok.1 c45
                  refine x_iconst (v := 0) (pc' := 194) C dL_does_193 rfl (by decide) ?_
                  refine x_goto (tgt := 199) C dL_does_194 (by decide) ?_
                  exact x_iret C (Nat.zero_le _) (Nat.zero_le _) dL_does_199 ⟨by rw [hRES], by rw [hRES]⟩
              · rw [if_neg c42] at hRES
                replace hok := hok.2 c42
                by_cases c46 : (a2 &&& 15) = 7
                · rw [if_pos c46] at hRES
                  replace hok := hok.1 c46
                  refine x_tabIn (off := 155) (tgt := 179) C (7) dL_does_24 (by rw [c46]; decide) (by decide) (by decide) rfl (by decide) ?_
                  refine x_aload_n (pc' := 180) C dL_does_179 rfl rfl rfl ?_
                  refine x_iload_n (pc' := 181) C dL_does_180 rfl rfl rfl ?_
                  obtain ⟨hn47, hok⟩ := hok
                  obtain ⟨z48, ez48⟩ : ∃ z, z = (f_X6_root M N F Q z4.2 z2.1) := ⟨_, rfl⟩
                  replace hRES := bd hRES z48 ez48
                  replace hok := bdP hok z48 ez48
                  have hc := c_X6_root (kl k) (kg k) h ad M adN N adF F adQ Q adE z4.2 z2.1 hn47
                  rw [← ez48] at hc
                  refine x_catWV (st := []) (st2 := [.int z48.1]) (pc' := 184) (wcs := [wMa h ad M, wSt (kg k) (ad 0) adN N, wSt (kg k) (ad 1) adF F, wHi (kg k) (ad 4) adQ Q, wRe (kg k) (ad 5) adE z4.2]) (wrs := [wOr (kg k) (ad 6) adO O]) (wcs' := [wMa h ad M, wSt (kg k) (ad 0) adN z48.2.1, wSt (kg k) (ad 1) adF z48.2.2.1, wHi (kg k) (ad 4) adQ z48.2.2.2.1, wRe (kg k) (ad 5) adE z48.2.2.2.2]) C B [wMa h ad M, wSt (kg k) (ad 0) adN z48.2.1, wSt (kg k) (ad 1) adF z48.2.2.1, wHi (kg k) (ad 4) adQ z48.2.2.2.1, wRe (kg k) (ad 5) adE z48.2.2.2.2, wOr (kg k) (ad 6) adO O] hc rfl rfl cw_L_37 ok_X6_root rfl (by decide) rfl rfl [5, 0, 1, 2, 3, 4] [1, 2, 3, 4, 5, 0] rfl rfl rfl rfl rfl (Nat.le_of_ble_eq_true rfl) (Nat.zero_le _) (Nat.zero_le _) rfl dL_does_181 rfl rfl ?_
                  refine x_istore (pc' := 186) (L' := [some (.ref h), some (.int a2), some (.int z2.1), some (.int z4.1), some (.int z48.1), none]) C dL_does_184 rfl (Nat.le_of_ble_eq_true rfl) rfl ?_
                  refine x_iload (pc' := 188) C dL_does_186 rfl rfl ?_
                  refine x_bipush (v := (-5)) (pc' := 190) C dL_does_188 rfl (by decide) ?_
                  refine x_icmp_ne (tgt := 197) (pc' := 193) C dL_does_190 (by decide) rfl (fun c49 => ?_) (fun c49 => ?_)
                  · rw [if_neg c49] at hRES
                    replace hok := hok.2 c49
                    refine x_iload (pc' := 199) C dL_does_197 rfl rfl ?_
                    exact x_iret C (Nat.zero_le _) (Nat.zero_le _) dL_does_199 ⟨by rw [hRES], by rw [hRES]⟩
                  · rw [if_pos c49] at hRES
                    replace hok := hok.1 c49
                    refine x_iconst (v := 0) (pc' := 194) C dL_does_193 rfl (by decide) ?_
                    refine x_goto (tgt := 199) C dL_does_194 (by decide) ?_
                    exact x_iret C (Nat.zero_le _) (Nat.zero_le _) dL_does_199 ⟨by rw [hRES], by rw [hRES]⟩
                · rw [if_neg c46] at hRES
                  replace hok := hok.2 c46
                  by_cases c50 : (a2 &&& 15) = 8
                  · rw [if_pos c50] at hRES
                    replace hok := hok.1 c50
                    refine x_tabIn (off := 176) (tgt := 200) C (8) dL_does_24 (by rw [c50]; decide) (by decide) (by decide) rfl (by decide) ?_
                    refine x_aload_n (pc' := 201) C dL_does_200 rfl rfl rfl ?_
                    refine x_iload_n (pc' := 202) C dL_does_201 rfl rfl rfl ?_
                    obtain ⟨hn51, hok⟩ := hok
                    obtain ⟨z52, ez52⟩ : ∃ z, z = (f_X6_cut M N F Q z4.2 z2.1) := ⟨_, rfl⟩
                    replace hRES := bd hRES z52 ez52
                    replace hok := bdP hok z52 ez52
                    have hc := c_X6_cut (kl k) (kg k) h ad M adN N adF F adQ Q adE z4.2 z2.1 hn51
                    rw [← ez52] at hc
                    refine x_catWV (st := []) (st2 := [.int z52.1]) (pc' := 205) (wcs := [wMa h ad M, wSt (kg k) (ad 0) adN N, wSt (kg k) (ad 1) adF F, wHi (kg k) (ad 4) adQ Q, wRe (kg k) (ad 5) adE z4.2]) (wrs := [wOr (kg k) (ad 6) adO O]) (wcs' := [wMa h ad M, wSt (kg k) (ad 0) adN z52.2.1, wSt (kg k) (ad 1) adF z52.2.2.1, wHi (kg k) (ad 4) adQ z52.2.2.2.1, wRe (kg k) (ad 5) adE z52.2.2.2.2]) C B [wMa h ad M, wSt (kg k) (ad 0) adN z52.2.1, wSt (kg k) (ad 1) adF z52.2.2.1, wHi (kg k) (ad 4) adQ z52.2.2.2.1, wRe (kg k) (ad 5) adE z52.2.2.2.2, wOr (kg k) (ad 6) adO O] hc rfl rfl cw_L_40 ok_X6_cut rfl (by decide) rfl rfl [5, 0, 1, 2, 3, 4] [1, 2, 3, 4, 5, 0] rfl rfl rfl rfl rfl (Nat.le_of_ble_eq_true rfl) (Nat.zero_le _) (Nat.zero_le _) rfl dL_does_202 rfl rfl ?_
                    refine x_istore (pc' := 207) (L' := [some (.ref h), some (.int a2), some (.int z2.1), some (.int z4.1), some (.int z52.1), none]) C dL_does_205 rfl (Nat.le_of_ble_eq_true rfl) rfl ?_
                    refine x_iload (pc' := 209) C dL_does_207 rfl rfl ?_
                    refine x_bipush (v := (-5)) (pc' := 211) C dL_does_209 rfl (by decide) ?_
                    refine x_icmp_eq (tgt := 221) (pc' := 214) C dL_does_211 (by decide) rfl (fun c53 => ?_) (fun c53 => ?_)
                    · rw [if_pos c53] at hRES
                      replace hok := hok.1 c53
                      refine x_iconst (v := 0) (pc' := 222) C dL_does_221 rfl (by decide) ?_
                      refine x_goto (tgt := 227) C dL_does_222 (by decide) ?_
                      exact x_iret C (Nat.zero_le _) (Nat.zero_le _) dL_does_227 ⟨by rw [hRES], by rw [hRES]⟩
                    · rw [if_neg c53] at hRES
                      replace hok := hok.2 c53
                      refine x_iload (pc' := 216) C dL_does_214 rfl rfl ?_
                      refine x_bipush (v := (-4)) (pc' := 218) C dL_does_216 rfl (by decide) ?_
                      refine x_icmp_ne (tgt := 225) (pc' := 221) C dL_does_218 (by decide) rfl (fun c54 => ?_) (fun c54 => ?_)
                      · rw [if_neg c54] at hRES
                        replace hok := hok.2 c54
                        refine x_iload (pc' := 227) C dL_does_225 rfl rfl ?_
                        exact x_iret C (Nat.zero_le _) (Nat.zero_le _) dL_does_227 ⟨by rw [hRES], by rw [hRES]⟩
                      · rw [if_pos c54] at hRES
                        replace hok := hok.1 c54
                        refine x_iconst (v := 0) (pc' := 222) C dL_does_221 rfl (by decide) ?_
                        refine x_goto (tgt := 227) C dL_does_222 (by decide) ?_
                        exact x_iret C (Nat.zero_le _) (Nat.zero_le _) dL_does_227 ⟨by rw [hRES], by rw [hRES]⟩
                  · rw [if_neg c50] at hRES
                    replace hok := hok.2 c50
                    by_cases c55 : (a2 &&& 15) = 9
                    · rw [if_pos c55] at hRES
                      replace hok := hok.1 c55
                      refine x_tabIn (off := 204) (tgt := 228) C (9) dL_does_24 (by rw [c55]; decide) (by decide) (by decide) rfl (by decide) ?_
                      refine x_aload_n (pc' := 229) C dL_does_228 rfl rfl rfl ?_
                      refine x_iload_n (pc' := 230) C dL_does_229 rfl rfl rfl ?_
                      obtain ⟨hn56, hok⟩ := hok
                      obtain ⟨z57, ez57⟩ : ∃ z, z = (f_X6_join M N F Q z4.2 z2.1) := ⟨_, rfl⟩
                      replace hRES := bd hRES z57 ez57
                      replace hok := bdP hok z57 ez57
                      have hc := c_X6_join (kl k) (kg k) h ad M adN N adF F adQ Q adE z4.2 z2.1 hn56
                      rw [← ez57] at hc
                      refine x_catWV (st := []) (st2 := [.int z57.1]) (pc' := 233) (wcs := [wMa h ad M, wSt (kg k) (ad 0) adN N, wSt (kg k) (ad 1) adF F, wHi (kg k) (ad 4) adQ Q, wRe (kg k) (ad 5) adE z4.2]) (wrs := [wOr (kg k) (ad 6) adO O]) (wcs' := [wMa h ad M, wSt (kg k) (ad 0) adN z57.2.1, wSt (kg k) (ad 1) adF z57.2.2.1, wHi (kg k) (ad 4) adQ z57.2.2.2.1, wRe (kg k) (ad 5) adE z57.2.2.2.2]) C B [wMa h ad M, wSt (kg k) (ad 0) adN z57.2.1, wSt (kg k) (ad 1) adF z57.2.2.1, wHi (kg k) (ad 4) adQ z57.2.2.2.1, wRe (kg k) (ad 5) adE z57.2.2.2.2, wOr (kg k) (ad 6) adO O] hc rfl rfl cw_L_43 ok_X6_join rfl (by decide) rfl rfl [5, 0, 1, 2, 3, 4] [1, 2, 3, 4, 5, 0] rfl rfl rfl rfl rfl (Nat.le_of_ble_eq_true rfl) (Nat.zero_le _) (Nat.zero_le _) rfl dL_does_230 rfl rfl ?_
                      refine x_istore (pc' := 235) (L' := [some (.ref h), some (.int a2), some (.int z2.1), some (.int z4.1), some (.int z57.1), none]) C dL_does_233 rfl (Nat.le_of_ble_eq_true rfl) rfl ?_
                      refine x_iload (pc' := 237) C dL_does_235 rfl rfl ?_
                      refine x_bipush (v := (-5)) (pc' := 239) C dL_does_237 rfl (by decide) ?_
                      refine x_icmp_eq (tgt := 249) (pc' := 242) C dL_does_239 (by decide) rfl (fun c58 => ?_) (fun c58 => ?_)
                      · rw [if_pos c58] at hRES
                        replace hok := hok.1 c58
                        refine x_iconst (v := 0) (pc' := 250) C dL_does_249 rfl (by decide) ?_
                        refine x_goto (tgt := 255) C dL_does_250 (by decide) ?_
                        exact x_iret C (Nat.zero_le _) (Nat.zero_le _) dL_does_255 ⟨by rw [hRES], by rw [hRES]⟩
                      · rw [if_neg c58] at hRES
                        replace hok := hok.2 c58
                        refine x_iload (pc' := 244) C dL_does_242 rfl rfl ?_
                        refine x_bipush (v := (-4)) (pc' := 246) C dL_does_244 rfl (by decide) ?_
                        refine x_icmp_ne (tgt := 253) (pc' := 249) C dL_does_246 (by decide) rfl (fun c59 => ?_) (fun c59 => ?_)
                        · rw [if_neg c59] at hRES
                          replace hok := hok.2 c59
                          refine x_iload (pc' := 255) C dL_does_253 rfl rfl ?_
                          exact x_iret C (Nat.zero_le _) (Nat.zero_le _) dL_does_255 ⟨by rw [hRES], by rw [hRES]⟩
                        · rw [if_pos c59] at hRES
                          replace hok := hok.1 c59
                          refine x_iconst (v := 0) (pc' := 250) C dL_does_249 rfl (by decide) ?_
                          refine x_goto (tgt := 255) C dL_does_250 (by decide) ?_
                          exact x_iret C (Nat.zero_le _) (Nat.zero_le _) dL_does_255 ⟨by rw [hRES], by rw [hRES]⟩
                    · rw [if_neg c55] at hRES
                      replace hok := hok.2 c55
                      by_cases c60 : (a2 &&& 15) = 10
                      · rw [if_pos c60] at hRES
                        replace hok := hok.1 c60
                        refine x_tabIn (off := 204) (tgt := 228) C (10) dL_does_24 (by rw [c60]; decide) (by decide) (by decide) rfl (by decide) ?_
                        refine x_aload_n (pc' := 229) C dL_does_228 rfl rfl rfl ?_
                        refine x_iload_n (pc' := 230) C dL_does_229 rfl rfl rfl ?_
                        obtain ⟨hn61, hok⟩ := hok
                        obtain ⟨z62, ez62⟩ : ∃ z, z = (f_X6_join M N F Q z4.2 z2.1) := ⟨_, rfl⟩
                        replace hRES := bd hRES z62 ez62
                        replace hok := bdP hok z62 ez62
                        have hc := c_X6_join (kl k) (kg k) h ad M adN N adF F adQ Q adE z4.2 z2.1 hn61
                        rw [← ez62] at hc
                        refine x_catWV (st := []) (st2 := [.int z62.1]) (pc' := 233) (wcs := [wMa h ad M, wSt (kg k) (ad 0) adN N, wSt (kg k) (ad 1) adF F, wHi (kg k) (ad 4) adQ Q, wRe (kg k) (ad 5) adE z4.2]) (wrs := [wOr (kg k) (ad 6) adO O]) (wcs' := [wMa h ad M, wSt (kg k) (ad 0) adN z62.2.1, wSt (kg k) (ad 1) adF z62.2.2.1, wHi (kg k) (ad 4) adQ z62.2.2.2.1, wRe (kg k) (ad 5) adE z62.2.2.2.2]) C B [wMa h ad M, wSt (kg k) (ad 0) adN z62.2.1, wSt (kg k) (ad 1) adF z62.2.2.1, wHi (kg k) (ad 4) adQ z62.2.2.2.1, wRe (kg k) (ad 5) adE z62.2.2.2.2, wOr (kg k) (ad 6) adO O] hc rfl rfl cw_L_43 ok_X6_join rfl (by decide) rfl rfl [5, 0, 1, 2, 3, 4] [1, 2, 3, 4, 5, 0] rfl rfl rfl rfl rfl (Nat.le_of_ble_eq_true rfl) (Nat.zero_le _) (Nat.zero_le _) rfl dL_does_230 rfl rfl ?_
                        refine x_istore (pc' := 235) (L' := [some (.ref h), some (.int a2), some (.int z2.1), some (.int z4.1), some (.int z62.1), none]) C dL_does_233 rfl (Nat.le_of_ble_eq_true rfl) rfl ?_
                        refine x_iload (pc' := 237) C dL_does_235 rfl rfl ?_
                        refine x_bipush (v := (-5)) (pc' := 239) C dL_does_237 rfl (by decide) ?_
                        refine x_icmp_eq (tgt := 249) (pc' := 242) C dL_does_239 (by decide) rfl (fun c63 => ?_) (fun c63 => ?_)
                        · rw [if_pos c63] at hRES
                          replace hok := hok.1 c63
                          refine x_iconst (v := 0) (pc' := 250) C dL_does_249 rfl (by decide) ?_
                          refine x_goto (tgt := 255) C dL_does_250 (by decide) ?_
                          exact x_iret C (Nat.zero_le _) (Nat.zero_le _) dL_does_255 ⟨by rw [hRES], by rw [hRES]⟩
                        · rw [if_neg c63] at hRES
                          replace hok := hok.2 c63
                          refine x_iload (pc' := 244) C dL_does_242 rfl rfl ?_
                          refine x_bipush (v := (-4)) (pc' := 246) C dL_does_244 rfl (by decide) ?_
                          refine x_icmp_ne (tgt := 253) (pc' := 249) C dL_does_246 (by decide) rfl (fun c64 => ?_) (fun c64 => ?_)
                          · rw [if_neg c64] at hRES
                            replace hok := hok.2 c64
                            refine x_iload (pc' := 255) C dL_does_253 rfl rfl ?_
                            exact x_iret C (Nat.zero_le _) (Nat.zero_le _) dL_does_255 ⟨by rw [hRES], by rw [hRES]⟩
                          · rw [if_pos c64] at hRES
                            replace hok := hok.1 c64
                            refine x_iconst (v := 0) (pc' := 250) C dL_does_249 rfl (by decide) ?_
                            refine x_goto (tgt := 255) C dL_does_250 (by decide) ?_
                            exact x_iret C (Nat.zero_le _) (Nat.zero_le _) dL_does_255 ⟨by rw [hRES], by rw [hRES]⟩
                      · rw [if_neg c60] at hRES
                        replace hok := hok.2 c60
                        by_cases c65 : (a2 &&& 15) = 11
                        · rw [if_pos c65] at hRES
                          replace hok := hok.1 c65
                          refine x_tabIn (off := 232) (tgt := 256) C (11) dL_does_24 (by rw [c65]; decide) (by decide) (by decide) rfl (by decide) ?_
                          refine x_iload_n (pc' := 257) C dL_does_256 rfl rfl rfl ?_
                          refine x_iconst (v := 4) (pc' := 258) C dL_does_257 rfl (by decide) ?_
                          refine x_ishr (pc' := 259) (v := (a2 >>> (4 &&& 31))) C dL_does_258 rfl rfl ?_
                          refine x_iconst (v := 1) (pc' := 260) C dL_does_259 rfl (by decide) ?_
                          refine x_iand (pc' := 261) (v := ((a2 >>> (4 &&& 31)) &&& 1)) C dL_does_260 rfl rfl ?_
                          refine x_istore (pc' := 263) (L' := [some (.ref h), some (.int a2), some (.int z2.1), some (.int z4.1), some (.int 0), some (.int ((a2 >>> (4 &&& 31)) &&& 1))]) C dL_does_261 rfl (Nat.le_of_ble_eq_true rfl) rfl ?_
                          refine x_aload_n (pc' := 264) C dL_does_263 rfl rfl rfl ?_
                          refine x_iload (pc' := 266) C dL_does_264 rfl rfl ?_
                          refine x_iload (pc' := 268) C dL_does_266 rfl rfl ?_
                          have join290 : ∀ (y2_290 : Int32), RES = j_L_does_290 M N F Q a2 z4 y2_290 → oj_L_does_290 M N F Q a2 y2_290 → X k 0 0 (cat [wMa h ad M, wSt (kg k) (ad 0) adN N, wSt (kg k) (ad 1) adF F, wHi (kg k) (ad 4) adQ Q, wRe (kg k) (ad 5) adE z4.2, wOr (kg k) (ad 6) adO O]) 290 [none, none, none, none, none, none] [.int y2_290, .int ((a2 >>> (4 &&& 31)) &&& 1), .ref h] := by
                            intro y2_290 hRES hok
                            unfold j_L_does_290 at hRES
                            unfold oj_L_does_290 at hok
                            obtain ⟨hn66, hok⟩ := hok
                            obtain ⟨z67, ez67⟩ : ∃ z, z = (f_X6_set M N F Q ((a2 >>> (4 &&& 31)) &&& 1) y2_290) := ⟨_, rfl⟩
                            replace hRES := bd hRES z67 ez67
                            replace hok := bdP hok z67 ez67
                            have hc := c_X6_set (kl k) (kg k) h ad M adN N adF F adQ Q ((a2 >>> (4 &&& 31)) &&& 1) y2_290 hn66
                            rw [← ez67] at hc
                            refine x_catWV (st := []) (st2 := [.int z67.1]) (pc' := 293) (wcs := [wMa h ad M, wSt (kg k) (ad 0) adN N, wSt (kg k) (ad 1) adF F, wHi (kg k) (ad 4) adQ Q]) (wrs := [wRe (kg k) (ad 5) adE z4.2, wOr (kg k) (ad 6) adO O]) (wcs' := [wMa h ad M, wSt (kg k) (ad 0) adN z67.2.1, wSt (kg k) (ad 1) adF z67.2.2.1, wHi (kg k) (ad 4) adQ z67.2.2.2]) C B [wMa h ad M, wSt (kg k) (ad 0) adN z67.2.1, wSt (kg k) (ad 1) adF z67.2.2.1, wHi (kg k) (ad 4) adQ z67.2.2.2, wRe (kg k) (ad 5) adE z4.2, wOr (kg k) (ad 6) adO O] hc rfl rfl cw_L_46 ok_X6_set rfl (by decide) rfl rfl [4, 5, 0, 1, 2, 3] [2, 3, 4, 5, 0, 1] rfl rfl rfl rfl rfl (Nat.le_of_ble_eq_true rfl) (Nat.zero_le _) (Nat.zero_le _) rfl dL_does_290 rfl rfl ?_
                            refine x_istore (pc' := 295) (L' := [none, none, none, none, some (.int z67.1), none]) C dL_does_293 rfl (Nat.le_of_ble_eq_true rfl) rfl ?_
                            refine x_iload (pc' := 297) C dL_does_295 rfl rfl ?_
                            refine x_bipush (v := (-5)) (pc' := 299) C dL_does_297 rfl (by decide) ?_
                            refine x_icmp_ne (tgt := 306) (pc' := 302) C dL_does_299 (by decide) rfl (fun c68 => ?_) (fun c68 => ?_)
                            · rw [if_neg c68] at hRES
                              replace hok := hok.2 c68
                              refine x_iload (pc' := 308) C dL_does_306 rfl rfl ?_
                              exact x_iret C (Nat.zero_le _) (Nat.zero_le _) dL_does_308 ⟨by rw [hRES], by rw [hRES]⟩
                            · rw [if_pos c68] at hRES
                              replace hok := hok.1 c68
                              refine x_iconst (v := 0) (pc' := 303) C dL_does_302 rfl (by decide) ?_
                              refine x_goto (tgt := 308) C dL_does_303 (by decide) ?_
                              exact x_iret C (Nat.zero_le _) (Nat.zero_le _) dL_does_308 ⟨by rw [hRES], by rw [hRES]⟩
                          refine x_if_ne (tgt := 281) (pc' := 271) C dL_does_268 (by decide) rfl (fun c69 => ?_) (fun c69 => ?_)
                          · rw [if_neg c69] at hRES
                            replace hok := hok.2 c69
                            refine x_iconst (v := 1) (pc' := 282) C dL_does_281 rfl (by decide) ?_
                            refine x_iload_n (pc' := 283) C dL_does_282 rfl rfl rfl ?_
                            refine x_iconst (v := 5) (pc' := 284) C dL_does_283 rfl (by decide) ?_
                            refine x_ishr (pc' := 285) (v := (a2 >>> (5 &&& 31))) C dL_does_284 rfl rfl ?_
                            refine x_iconst (v := 4) (pc' := 286) C dL_does_285 rfl (by decide) ?_
                            obtain ⟨hn70, hok⟩ := hok
                            refine x_RS (st := [.int 1, .int ((a2 >>> (4 &&& 31)) &&& 1), .ref h]) (st2 := [.int (f_L_low (a2 >>> (5 &&& 31)) 4), .int 1, .int ((a2 >>> (4 &&& 31)) &&& 1), .ref h]) (pc' := 289) C (c_L_low (kl k) (kg k) (a2 >>> (5 &&& 31)) 4 hn70) cw_L_8 ok_L_low (by decide) [] rfl rfl rfl (Nat.le_of_ble_eq_true rfl) (Nat.zero_le _) (Nat.zero_le _) rfl dL_does_286 rfl rfl ?_
                            refine x_iadd (pc' := 290) (v := ((1 : Int32) + (f_L_low (a2 >>> (5 &&& 31)) 4))) C dL_does_289 rfl rfl ?_
                            refine x_forget (L' := [none, none, none, none, none, none]) [] rfl rfl ?_
                            exact join290 ((1 : Int32) + (f_L_low (a2 >>> (5 &&& 31)) 4)) hRES hok
                          · rw [if_pos c69] at hRES
                            replace hok := hok.1 c69
                            refine x_iload_n (pc' := 272) C dL_does_271 rfl rfl rfl ?_
                            refine x_iconst (v := 5) (pc' := 273) C dL_does_272 rfl (by decide) ?_
                            refine x_ishr (pc' := 274) (v := (a2 >>> (5 &&& 31))) C dL_does_273 rfl rfl ?_
                            refine x_iconst (v := 3) (pc' := 275) C dL_does_274 rfl (by decide) ?_
                            obtain ⟨hn71, hok⟩ := hok
                            refine x_RS (st := [.int ((a2 >>> (4 &&& 31)) &&& 1), .ref h]) (st2 := [.int (f_L_low (a2 >>> (5 &&& 31)) 3), .int ((a2 >>> (4 &&& 31)) &&& 1), .ref h]) (pc' := 278) C (c_L_low (kl k) (kg k) (a2 >>> (5 &&& 31)) 3 hn71) cw_L_8 ok_L_low (by decide) [] rfl rfl rfl (Nat.le_of_ble_eq_true rfl) (Nat.zero_le _) (Nat.zero_le _) rfl dL_does_275 rfl rfl ?_
                            refine x_goto (tgt := 290) C dL_does_278 (by decide) ?_
                            refine x_forget (L' := [none, none, none, none, none, none]) [] rfl rfl ?_
                            exact join290 (f_L_low (a2 >>> (5 &&& 31)) 3) hRES hok
                        · rw [if_neg c65] at hRES
                          replace hok := hok.2 c65
                          refine x_tabOut (tgt := 309) C dL_does_24 (by have hc5 := lv_neT (a := 0) c5 (by decide); have hc12 := lv_neT (a := 1) c12 (by decide); have hc19 := lv_neT (a := 2) c19 (by decide); have hc26 := lv_neT (a := 3) c26 (by decide); have hc32 := lv_neT (a := 4) c32 (by decide); have hc38 := lv_neT (a := 5) c38 (by decide); have hc42 := lv_neT (a := 6) c42 (by decide); have hc46 := lv_neT (a := 7) c46 (by decide); have hc50 := lv_neT (a := 8) c50 (by decide); have hc55 := lv_neT (a := 9) c55 (by decide); have hc60 := lv_neT (a := 10) c60 (by decide); have hc65 := lv_neT (a := 11) c65 (by decide); omega) (by decide) ?_
                          refine x_aload_n (pc' := 310) C dL_does_309 rfl rfl rfl ?_
                          refine x_iload_n (pc' := 311) C dL_does_310 rfl rfl rfl ?_
                          obtain ⟨hn72, hok⟩ := hok
                          obtain ⟨z73, ez73⟩ : ∃ z, z = (f_X6_ask M N F Q z4.2 z2.1) := ⟨_, rfl⟩
                          replace hRES := bd hRES z73 ez73
                          replace hok := bdP hok z73 ez73
                          have hc := c_X6_ask (kl k) (kg k) h ad M adN N adF F adQ Q adE z4.2 z2.1 hn72
                          rw [← ez73] at hc
                          refine x_catWV (st := []) (st2 := [.int z73.1]) (pc' := 314) (wcs := [wMa h ad M, wSt (kg k) (ad 0) adN N, wSt (kg k) (ad 1) adF F, wHi (kg k) (ad 4) adQ Q, wRe (kg k) (ad 5) adE z4.2]) (wrs := [wOr (kg k) (ad 6) adO O]) (wcs' := [wMa h ad M, wSt (kg k) (ad 0) adN z73.2.1, wSt (kg k) (ad 1) adF z73.2.2.1, wHi (kg k) (ad 4) adQ z73.2.2.2.1, wRe (kg k) (ad 5) adE z73.2.2.2.2]) C B [wMa h ad M, wSt (kg k) (ad 0) adN z73.2.1, wSt (kg k) (ad 1) adF z73.2.2.1, wHi (kg k) (ad 4) adQ z73.2.2.2.1, wRe (kg k) (ad 5) adE z73.2.2.2.2, wOr (kg k) (ad 6) adO O] hc rfl rfl cw_L_49 ok_X6_ask rfl (by decide) rfl rfl [5, 0, 1, 2, 3, 4] [1, 2, 3, 4, 5, 0] rfl rfl rfl rfl rfl (Nat.le_of_ble_eq_true rfl) (Nat.zero_le _) (Nat.zero_le _) rfl dL_does_311 rfl rfl ?_
                          exact x_iret C (Nat.zero_le _) (Nat.zero_le _) dL_does_314 ⟨by rw [hRES], by rw [hRES]⟩

def k_L_isSo_390 (M : CS) (N : CS) (Q : HS) (O : CS) (E_390 : CS) (x1_390 : Int32) (x2_390 : Int32) (x3_390 : Int32) (x4_390 : Int32) (x5_390 : Int32) (x6_390 : Int32) (x7_390 : Int32) (x8_390 : Int32) (x9_390 : Int32) : Bool × CS := (if x9_390 = 0 then (false, E_390) else (bind1 (f_X6_count M N Q E_390 O 0) (fun z2 => (if x1_390 = z2.1 then (bind1 (f_X6_count M N Q z2.2 O 1) (fun z4 => (if x2_390 = z4.1 then (if (x2_390 + x3_390) = x1_390 then (bind1 (f_X6_count M N Q z4.2 O 6) (fun z7 => (if x4_390 = z7.1 then (bind1 (f_X6_count M N Q z7.2 O 2) (fun z9 => (if x5_390 = z9.1 then (bind1 (f_X6_count M N Q z9.2 O 5) (fun z11 => (if x7_390 = z11.1 then (bind1 (f_X6_count M N Q z11.2 O 3) (fun z13 => (if z13.1 < x6_390 then (false, z13.2) else (bind1 (f_X6_count M N Q z13.2 O 7) (fun z15 => (if x8_390 = z15.1 then (bind1 (f_X6_count M N Q z15.2 O 4) (fun z17 => (bind1 (f_X6_count M N Q z17.2 O 3) (fun z18 => (if z17.1 < z18.1 then (false, z18.2) else (true, z18.2)))))) else (false, z15.2))))))) else (false, z11.2)))) else (false, z9.2)))) else (false, z7.2)))) else (false, z4.2)) else (false, z4.2)))) else (false, z2.2)))))
def j_L_isSo_384 (rec_l_L_isSo_27 : CS → Int32 → Nat → Int32 → Int32 → Int32 → Int32 → Int32 → Int32 → Int32 → Int32 → Bool × CS) (i10_27 : Nat) (E_384 : CS) (x1_384 : Int32) (x2_384 : Int32) (x3_384 : Int32) (x4_384 : Int32) (x5_384 : Int32) (x6_384 : Int32) (x7_384 : Int32) (x8_384 : Int32) (x9_384 : Int32) : Bool × CS := (rec_l_L_isSo_27 E_384 x1_384 (i10_27 + 1) x2_384 x3_384 x4_384 x5_384 x6_384 x7_384 x8_384 x9_384)
def j_L_isSo_382 (rec_l_L_isSo_27 : CS → Int32 → Nat → Int32 → Int32 → Int32 → Int32 → Int32 → Int32 → Int32 → Int32 → Bool × CS) (x1_27 : Int32) (i10_27 : Nat) (x2_27 : Int32) (x3_27 : Int32) (x4_27 : Int32) (x5_27 : Int32) (x6_27 : Int32) (x7_27 : Int32) (y1_110 : Int32) (y1_123 : Int32) (y1_142 : Int32) (y1_160 : Int32) (y2_175 : Int32) (y1_197 : Int32) (z26 : Int32 × CS) (y0_237 : Int32) (E_382 : CS) (y0_382 : Int32) : Bool × CS := (j_L_isSo_384 rec_l_L_isSo_27 i10_27 E_382 (x1_27 + 1) (x2_27 + y1_110) (x3_27 + y1_123) (x4_27 + y1_142) (x5_27 + (y1_160 + y2_175)) (x6_27 + z26.1) (x7_27 + y1_197) y0_237 y0_382)
def j_L_isSo_283 (rec_l_L_isSo_27 : CS → Int32 → Nat → Int32 → Int32 → Int32 → Int32 → Int32 → Int32 → Int32 → Int32 → Bool × CS) (M : CS) (N : CS) (x1_27 : Int32) (i10_27 : Nat) (x2_27 : Int32) (x3_27 : Int32) (x4_27 : Int32) (x5_27 : Int32) (x6_27 : Int32) (x7_27 : Int32) (z21 : Int32 × CS) (z23 : Int32 × CS) (y0_92 : Int32) (y1_110 : Int32) (y1_123 : Int32) (y1_142 : Int32) (y1_160 : Int32) (y2_175 : Int32) (y1_197 : Int32) (z26 : Int32 × CS) (y0_237 : Int32) (y0_268 : Int32) (z31 : Int32 × CS) (y1_283 : Int32) : Bool × CS := (if y0_268 = y1_283 then (bind1 (f_X6_version M N z31.2 (nI i10_27) 9) (fun z33 => (bind1 (f_X6_version M N z33.2 (nI i10_27) 5) (fun z34 => (if z33.1 = ((1 : Int32) + z34.1) then (bind1 (f_X6_version M N z34.2 (nI i10_27) 5) (fun z36 => (if z36.1 < (f_X6_unlike M N (nI i10_27) z21.1) then (j_L_isSo_382 rec_l_L_isSo_27 x1_27 i10_27 x2_27 x3_27 x4_27 x5_27 x6_27 x7_27 y1_110 y1_123 y1_142 y1_160 y2_175 y1_197 z26 y0_237 z36.2 0) else (if y0_92 = 0 then (if 0 < i10_27 then (j_L_isSo_382 rec_l_L_isSo_27 x1_27 i10_27 x2_27 x3_27 x4_27 x5_27 x6_27 x7_27 y1_110 y1_123 y1_142 y1_160 y2_175 y1_197 z26 y0_237 z36.2 1) else (if z23.1 = (-5) then (j_L_isSo_382 rec_l_L_isSo_27 x1_27 i10_27 x2_27 x3_27 x4_27 x5_27 x6_27 x7_27 y1_110 y1_123 y1_142 y1_160 y2_175 y1_197 z26 y0_237 z36.2 1) else (j_L_isSo_382 rec_l_L_isSo_27 x1_27 i10_27 x2_27 x3_27 x4_27 x5_27 x6_27 x7_27 y1_110 y1_123 y1_142 y1_160 y2_175 y1_197 z26 y0_237 z36.2 0))) else (bind1 (f_X6_version M N z36.2 z23.1 3) (fun z42 => (if z42.1 = z21.1 then (bind1 (f_X6_version M N z42.2 z23.1 8) (fun z44 => (bind1 (f_X6_version M N z44.2 (nI i10_27) 8) (fun z45 => (if z44.1 = z45.1 then (if 0 < i10_27 then (j_L_isSo_382 rec_l_L_isSo_27 x1_27 i10_27 x2_27 x3_27 x4_27 x5_27 x6_27 x7_27 y1_110 y1_123 y1_142 y1_160 y2_175 y1_197 z26 y0_237 z45.2 1) else (if z23.1 = (-5) then (j_L_isSo_382 rec_l_L_isSo_27 x1_27 i10_27 x2_27 x3_27 x4_27 x5_27 x6_27 x7_27 y1_110 y1_123 y1_142 y1_160 y2_175 y1_197 z26 y0_237 z45.2 0) else (j_L_isSo_382 rec_l_L_isSo_27 x1_27 i10_27 x2_27 x3_27 x4_27 x5_27 x6_27 x7_27 y1_110 y1_123 y1_142 y1_160 y2_175 y1_197 z26 y0_237 z45.2 0))) else (j_L_isSo_382 rec_l_L_isSo_27 x1_27 i10_27 x2_27 x3_27 x4_27 x5_27 x6_27 x7_27 y1_110 y1_123 y1_142 y1_160 y2_175 y1_197 z26 y0_237 z45.2 0)))))) else (j_L_isSo_382 rec_l_L_isSo_27 x1_27 i10_27 x2_27 x3_27 x4_27 x5_27 x6_27 x7_27 y1_110 y1_123 y1_142 y1_160 y2_175 y1_197 z26 y0_237 z42.2 0)))))))) else (j_L_isSo_382 rec_l_L_isSo_27 x1_27 i10_27 x2_27 x3_27 x4_27 x5_27 x6_27 x7_27 y1_110 y1_123 y1_142 y1_160 y2_175 y1_197 z26 y0_237 z34.2 0)))))) else (j_L_isSo_382 rec_l_L_isSo_27 x1_27 i10_27 x2_27 x3_27 x4_27 x5_27 x6_27 x7_27 y1_110 y1_123 y1_142 y1_160 y2_175 y1_197 z26 y0_237 z31.2 0))
def j_L_isSo_268 (rec_l_L_isSo_27 : CS → Int32 → Nat → Int32 → Int32 → Int32 → Int32 → Int32 → Int32 → Int32 → Int32 → Bool × CS) (M : CS) (N : CS) (x1_27 : Int32) (i10_27 : Nat) (x2_27 : Int32) (x3_27 : Int32) (x4_27 : Int32) (x5_27 : Int32) (x6_27 : Int32) (x7_27 : Int32) (z21 : Int32 × CS) (z23 : Int32 × CS) (y0_92 : Int32) (y1_110 : Int32) (y1_123 : Int32) (y1_142 : Int32) (y1_160 : Int32) (y2_175 : Int32) (y1_197 : Int32) (z26 : Int32 × CS) (y0_237 : Int32) (z29 : Int32 × CS) (y0_268 : Int32) : Bool × CS := (bind1 (f_X6_version M N z29.2 (nI i10_27) 4) (fun z31 => (if z31.1 = 0 then (j_L_isSo_283 rec_l_L_isSo_27 M N x1_27 i10_27 x2_27 x3_27 x4_27 x5_27 x6_27 x7_27 z21 z23 y0_92 y1_110 y1_123 y1_142 y1_160 y2_175 y1_197 z26 y0_237 y0_268 z31 1) else (j_L_isSo_283 rec_l_L_isSo_27 M N x1_27 i10_27 x2_27 x3_27 x4_27 x5_27 x6_27 x7_27 z21 z23 y0_92 y1_110 y1_123 y1_142 y1_160 y2_175 y1_197 z26 y0_237 y0_268 z31 0))))
def j_L_isSo_237 (rec_l_L_isSo_27 : CS → Int32 → Nat → Int32 → Int32 → Int32 → Int32 → Int32 → Int32 → Int32 → Int32 → Bool × CS) (M : CS) (N : CS) (x1_27 : Int32) (i10_27 : Nat) (x2_27 : Int32) (x3_27 : Int32) (x4_27 : Int32) (x5_27 : Int32) (x6_27 : Int32) (x7_27 : Int32) (x9_27 : Int32) (z21 : Int32 × CS) (z23 : Int32 × CS) (y0_92 : Int32) (y1_110 : Int32) (y1_123 : Int32) (y1_142 : Int32) (y1_160 : Int32) (y2_175 : Int32) (y1_197 : Int32) (z26 : Int32 × CS) (E_237 : CS) (y0_237 : Int32) : Bool × CS := (if x9_27 = 0 then (j_L_isSo_382 rec_l_L_isSo_27 x1_27 i10_27 x2_27 x3_27 x4_27 x5_27 x6_27 x7_27 y1_110 y1_123 y1_142 y1_160 y2_175 y1_197 z26 y0_237 E_237 0) else (bind1 (f_X6_version M N E_237 z21.1 3) (fun z29 => (if z29.1 = z21.1 then (if z21.1 = (nI i10_27) then (j_L_isSo_268 rec_l_L_isSo_27 M N x1_27 i10_27 x2_27 x3_27 x4_27 x5_27 x6_27 x7_27 z21 z23 y0_92 y1_110 y1_123 y1_142 y1_160 y2_175 y1_197 z26 y0_237 z29 1) else (j_L_isSo_268 rec_l_L_isSo_27 M N x1_27 i10_27 x2_27 x3_27 x4_27 x5_27 x6_27 x7_27 z21 z23 y0_92 y1_110 y1_123 y1_142 y1_160 y2_175 y1_197 z26 y0_237 z29 0)) else (j_L_isSo_382 rec_l_L_isSo_27 x1_27 i10_27 x2_27 x3_27 x4_27 x5_27 x6_27 x7_27 y1_110 y1_123 y1_142 y1_160 y2_175 y1_197 z26 y0_237 z29.2 0)))))
def j_L_isSo_197 (rec_l_L_isSo_27 : CS → Int32 → Nat → Int32 → Int32 → Int32 → Int32 → Int32 → Int32 → Int32 → Int32 → Bool × CS) (M : CS) (N : CS) (x1_27 : Int32) (i10_27 : Nat) (x2_27 : Int32) (x3_27 : Int32) (x4_27 : Int32) (x5_27 : Int32) (x6_27 : Int32) (x7_27 : Int32) (x8_27 : Int32) (x9_27 : Int32) (z21 : Int32 × CS) (z23 : Int32 × CS) (y0_92 : Int32) (y1_110 : Int32) (y1_123 : Int32) (y1_142 : Int32) (y1_160 : Int32) (y2_175 : Int32) (z25 : Int32 × CS) (y1_197 : Int32) : Bool × CS := (bind1 (f_X6_version M N z25.2 (nI i10_27) 6) (fun z26 => (bind1 (f_X6_version M N z26.2 (nI i10_27) 4) (fun z27 => (if x8_27 < z27.1 then (bind1 (f_X6_version M N z27.2 (nI i10_27) 4) (fun z53 => (j_L_isSo_237 rec_l_L_isSo_27 M N x1_27 i10_27 x2_27 x3_27 x4_27 x5_27 x6_27 x7_27 x9_27 z21 z23 y0_92 y1_110 y1_123 y1_142 y1_160 y2_175 y1_197 z26 z53.2 z53.1))) else (j_L_isSo_237 rec_l_L_isSo_27 M N x1_27 i10_27 x2_27 x3_27 x4_27 x5_27 x6_27 x7_27 x9_27 z21 z23 y0_92 y1_110 y1_123 y1_142 y1_160 y2_175 y1_197 z26 z27.2 x8_27))))))
def j_L_isSo_175 (rec_l_L_isSo_27 : CS → Int32 → Nat → Int32 → Int32 → Int32 → Int32 → Int32 → Int32 → Int32 → Int32 → Bool × CS) (M : CS) (N : CS) (x1_27 : Int32) (i10_27 : Nat) (x2_27 : Int32) (x3_27 : Int32) (x4_27 : Int32) (x5_27 : Int32) (x6_27 : Int32) (x7_27 : Int32) (x8_27 : Int32) (x9_27 : Int32) (z21 : Int32 × CS) (z23 : Int32 × CS) (z24 : Int32 × CS) (y0_92 : Int32) (y1_110 : Int32) (y1_123 : Int32) (y1_142 : Int32) (y1_160 : Int32) (y2_175 : Int32) : Bool × CS := (bind1 (f_X6_version M N z24.2 (nI i10_27) 6) (fun z25 => (if z25.1 = 0 then (j_L_isSo_197 rec_l_L_isSo_27 M N x1_27 i10_27 x2_27 x3_27 x4_27 x5_27 x6_27 x7_27 x8_27 x9_27 z21 z23 y0_92 y1_110 y1_123 y1_142 y1_160 y2_175 z25 1) else (j_L_isSo_197 rec_l_L_isSo_27 M N x1_27 i10_27 x2_27 x3_27 x4_27 x5_27 x6_27 x7_27 x8_27 x9_27 z21 z23 y0_92 y1_110 y1_123 y1_142 y1_160 y2_175 z25 0))))
def j_L_isSo_160 (rec_l_L_isSo_27 : CS → Int32 → Nat → Int32 → Int32 → Int32 → Int32 → Int32 → Int32 → Int32 → Int32 → Bool × CS) (M : CS) (N : CS) (x1_27 : Int32) (i10_27 : Nat) (x2_27 : Int32) (x3_27 : Int32) (x4_27 : Int32) (x5_27 : Int32) (x6_27 : Int32) (x7_27 : Int32) (x8_27 : Int32) (x9_27 : Int32) (z21 : Int32 × CS) (z23 : Int32 × CS) (y0_74 : Int32) (z24 : Int32 × CS) (y0_92 : Int32) (y1_110 : Int32) (y1_123 : Int32) (y1_142 : Int32) (y1_160 : Int32) : Bool × CS := (if y0_92 = 0 then (j_L_isSo_175 rec_l_L_isSo_27 M N x1_27 i10_27 x2_27 x3_27 x4_27 x5_27 x6_27 x7_27 x8_27 x9_27 z21 z23 z24 y0_92 y1_110 y1_123 y1_142 y1_160 0) else (j_L_isSo_175 rec_l_L_isSo_27 M N x1_27 i10_27 x2_27 x3_27 x4_27 x5_27 x6_27 x7_27 x8_27 x9_27 z21 z23 z24 y0_92 y1_110 y1_123 y1_142 y1_160 ((1 : Int32) + ((2 : Int32) * y0_74))))
def j_L_isSo_142 (rec_l_L_isSo_27 : CS → Int32 → Nat → Int32 → Int32 → Int32 → Int32 → Int32 → Int32 → Int32 → Int32 → Bool × CS) (M : CS) (N : CS) (x1_27 : Int32) (i10_27 : Nat) (x2_27 : Int32) (x3_27 : Int32) (x4_27 : Int32) (x5_27 : Int32) (x6_27 : Int32) (x7_27 : Int32) (x8_27 : Int32) (x9_27 : Int32) (z21 : Int32 × CS) (z23 : Int32 × CS) (y0_74 : Int32) (z24 : Int32 × CS) (y0_92 : Int32) (y1_110 : Int32) (y1_123 : Int32) (y1_142 : Int32) : Bool × CS := (if z21.1 = (nI i10_27) then (j_L_isSo_160 rec_l_L_isSo_27 M N x1_27 i10_27 x2_27 x3_27 x4_27 x5_27 x6_27 x7_27 x8_27 x9_27 z21 z23 y0_74 z24 y0_92 y1_110 y1_123 y1_142 8) else (j_L_isSo_160 rec_l_L_isSo_27 M N x1_27 i10_27 x2_27 x3_27 x4_27 x5_27 x6_27 x7_27 x8_27 x9_27 z21 z23 y0_74 z24 y0_92 y1_110 y1_123 y1_142 0))
def j_L_isSo_123 (rec_l_L_isSo_27 : CS → Int32 → Nat → Int32 → Int32 → Int32 → Int32 → Int32 → Int32 → Int32 → Int32 → Bool × CS) (M : CS) (N : CS) (x1_27 : Int32) (i10_27 : Nat) (x2_27 : Int32) (x3_27 : Int32) (x4_27 : Int32) (x5_27 : Int32) (x6_27 : Int32) (x7_27 : Int32) (x8_27 : Int32) (x9_27 : Int32) (z21 : Int32 × CS) (z23 : Int32 × CS) (y0_74 : Int32) (z24 : Int32 × CS) (y0_92 : Int32) (y1_110 : Int32) (y1_123 : Int32) : Bool × CS := (if 0 < i10_27 then (if y0_92 = 0 then (j_L_isSo_142 rec_l_L_isSo_27 M N x1_27 i10_27 x2_27 x3_27 x4_27 x5_27 x6_27 x7_27 x8_27 x9_27 z21 z23 y0_74 z24 y0_92 y1_110 y1_123 1) else (j_L_isSo_142 rec_l_L_isSo_27 M N x1_27 i10_27 x2_27 x3_27 x4_27 x5_27 x6_27 x7_27 x8_27 x9_27 z21 z23 y0_74 z24 y0_92 y1_110 y1_123 0)) else (j_L_isSo_142 rec_l_L_isSo_27 M N x1_27 i10_27 x2_27 x3_27 x4_27 x5_27 x6_27 x7_27 x8_27 x9_27 z21 z23 y0_74 z24 y0_92 y1_110 y1_123 0))
def j_L_isSo_110 (rec_l_L_isSo_27 : CS → Int32 → Nat → Int32 → Int32 → Int32 → Int32 → Int32 → Int32 → Int32 → Int32 → Bool × CS) (M : CS) (N : CS) (x1_27 : Int32) (i10_27 : Nat) (x2_27 : Int32) (x3_27 : Int32) (x4_27 : Int32) (x5_27 : Int32) (x6_27 : Int32) (x7_27 : Int32) (x8_27 : Int32) (x9_27 : Int32) (z21 : Int32 × CS) (z23 : Int32 × CS) (y0_74 : Int32) (z24 : Int32 × CS) (y0_92 : Int32) (y1_110 : Int32) : Bool × CS := (if y0_92 = 0 then (j_L_isSo_123 rec_l_L_isSo_27 M N x1_27 i10_27 x2_27 x3_27 x4_27 x5_27 x6_27 x7_27 x8_27 x9_27 z21 z23 y0_74 z24 y0_92 y1_110 0) else (j_L_isSo_123 rec_l_L_isSo_27 M N x1_27 i10_27 x2_27 x3_27 x4_27 x5_27 x6_27 x7_27 x8_27 x9_27 z21 z23 y0_74 z24 y0_92 y1_110 1))
def j_L_isSo_92 (rec_l_L_isSo_27 : CS → Int32 → Nat → Int32 → Int32 → Int32 → Int32 → Int32 → Int32 → Int32 → Int32 → Bool × CS) (M : CS) (N : CS) (x1_27 : Int32) (i10_27 : Nat) (x2_27 : Int32) (x3_27 : Int32) (x4_27 : Int32) (x5_27 : Int32) (x6_27 : Int32) (x7_27 : Int32) (x8_27 : Int32) (x9_27 : Int32) (z21 : Int32 × CS) (z23 : Int32 × CS) (y0_74 : Int32) (z24 : Int32 × CS) (y0_92 : Int32) : Bool × CS := (if z21.1 = (nI i10_27) then (j_L_isSo_110 rec_l_L_isSo_27 M N x1_27 i10_27 x2_27 x3_27 x4_27 x5_27 x6_27 x7_27 x8_27 x9_27 z21 z23 y0_74 z24 y0_92 1) else (j_L_isSo_110 rec_l_L_isSo_27 M N x1_27 i10_27 x2_27 x3_27 x4_27 x5_27 x6_27 x7_27 x8_27 x9_27 z21 z23 y0_74 z24 y0_92 0))
def j_L_isSo_74 (rec_l_L_isSo_27 : CS → Int32 → Nat → Int32 → Int32 → Int32 → Int32 → Int32 → Int32 → Int32 → Int32 → Bool × CS) (M : CS) (N : CS) (x1_27 : Int32) (i10_27 : Nat) (x2_27 : Int32) (x3_27 : Int32) (x4_27 : Int32) (x5_27 : Int32) (x6_27 : Int32) (x7_27 : Int32) (x8_27 : Int32) (x9_27 : Int32) (z21 : Int32 × CS) (z23 : Int32 × CS) (y0_74 : Int32) : Bool × CS := (bind1 (f_X6_version M N z23.2 (nI i10_27) 1) (fun z24 => (if z24.1 = 1 then (j_L_isSo_92 rec_l_L_isSo_27 M N x1_27 i10_27 x2_27 x3_27 x4_27 x5_27 x6_27 x7_27 x8_27 x9_27 z21 z23 y0_74 z24 1) else (j_L_isSo_92 rec_l_L_isSo_27 M N x1_27 i10_27 x2_27 x3_27 x4_27 x5_27 x6_27 x7_27 x8_27 x9_27 z21 z23 y0_74 z24 0))))
def l_L_isSo_27 (M : CS) (N : CS) (Q : HS) (O : CS) : Nat → CS → Int32 → Nat → Int32 → Int32 → Int32 → Int32 → Int32 → Int32 → Int32 → Int32 → Bool × CS
  | 0, _, _, _, _, _, _, _, _, _, _, _ => (false, dfCS)
  | n27 + 1, E_27, x1_27, i10_27, x2_27, x3_27, x4_27, x5_27, x6_27, x7_27, x8_27, x9_27 => (if i10_27 < 24 then (bind1 (f_X6_version M N E_27 (nI i10_27) 3) (fun z21 => (if z21.1 < 0 then (j_L_isSo_384 (fun E_27 x1_27 i10_27 x2_27 x3_27 x4_27 x5_27 x6_27 x7_27 x8_27 x9_27 => l_L_isSo_27 M N Q O n27 E_27 x1_27 i10_27 x2_27 x3_27 x4_27 x5_27 x6_27 x7_27 x8_27 x9_27) i10_27 z21.2 x1_27 x2_27 x3_27 x4_27 x5_27 x6_27 x7_27 x8_27 x9_27) else (bind1 (f_X6_version M N z21.2 (nI i10_27) 0) (fun z23 => (if i10_27 = 0 then (j_L_isSo_74 (fun E_27 x1_27 i10_27 x2_27 x3_27 x4_27 x5_27 x6_27 x7_27 x8_27 x9_27 => l_L_isSo_27 M N Q O n27 E_27 x1_27 i10_27 x2_27 x3_27 x4_27 x5_27 x6_27 x7_27 x8_27 x9_27) M N x1_27 i10_27 x2_27 x3_27 x4_27 x5_27 x6_27 x7_27 x8_27 x9_27 z21 z23 0) else (j_L_isSo_74 (fun E_27 x1_27 i10_27 x2_27 x3_27 x4_27 x5_27 x6_27 x7_27 x8_27 x9_27 => l_L_isSo_27 M N Q O n27 E_27 x1_27 i10_27 x2_27 x3_27 x4_27 x5_27 x6_27 x7_27 x8_27 x9_27) M N x1_27 i10_27 x2_27 x3_27 x4_27 x5_27 x6_27 x7_27 x8_27 x9_27 z21 z23 (f_X6_unlike M N (nI i10_27) z23.1)))))))) else (k_L_isSo_390 M N Q O E_27 x1_27 x2_27 x3_27 x4_27 x5_27 x6_27 x7_27 x8_27 x9_27))
def f_L_isSo (M : CS) (N : CS) (Q : HS) (E : CS) (O : CS) : Bool × CS := (l_L_isSo_27 M N Q O 25 E 0 0 0 0 0 0 0 0 0 1)
set_option maxRecDepth 100000 in
set_option maxHeartbeats 8000000 in
theorem c_L_isSo (l : Launch) (g : GT) (h : Nat) (ad : Nat → Nat) (M : CS) (adN : Nat → Nat) (N : CS) (adQ : Nat → Nat) (Q : HS) (adE : Nat → Nat) (E : CS) (adO : Nat → Nat) (O : CS) : CW l yL_isSo (.code yL_isSo cL_isSo 15 (some .boolean)) 6 g [.ref h] (cat [wMa h ad M, wSt g (ad 0) adN N, wHi g (ad 4) adQ Q, wRe g (ad 5) adE E, wOr g (ad 6) adO O]) (some (.int (bI (f_L_isSo M N Q E O).1))) (cat [wMa h ad M, wSt g (ad 0) adN N, wHi g (ad 4) adQ Q, wRe g (ad 5) adE (f_L_isSo M N Q E O).2, wOr g (ad 6) adO O]) := by
  obtain ⟨RES, hRES⟩ : ∃ z, z = (f_L_isSo M N Q E O) := ⟨_, rfl⟩
  rw [← hRES]
  unfold f_L_isSo at hRES
  refine CWx.of (nL := 15) (ret := (some .boolean)) (own := RL) (cc := cL_isSo) rfl (by decide) rfl (List.forall_mem_cons.mpr ⟨rfl, (fun _ h => absurd h List.not_mem_nil)⟩) (Nat.le_of_ble_eq_true rfl) ?_
  intro k C B hin hkl hkg
  subst hkl; subst hkg
  refine x_loc2 (L' := [some (.ref h), none, none, none, none, none, none, none, none, none, none, none, none, none, none]) rfl ?_
  refine x_iconst (v := 0) (pc' := 1) C dL_isSo_0 rfl (by decide) ?_
  refine x_istore_n (pc' := 2) (L' := [some (.ref h), some (.int 0), none, none, none, none, none, none, none, none, none, none, none, none, none]) C dL_isSo_1 rfl rfl (Nat.le_of_ble_eq_true rfl) rfl ?_
  refine x_iconst (v := 0) (pc' := 3) C dL_isSo_2 rfl (by decide) ?_
  refine x_istore_n (pc' := 4) (L' := [some (.ref h), some (.int 0), some (.int 0), none, none, none, none, none, none, none, none, none, none, none, none]) C dL_isSo_3 rfl rfl (Nat.le_of_ble_eq_true rfl) rfl ?_
  refine x_iconst (v := 0) (pc' := 5) C dL_isSo_4 rfl (by decide) ?_
  refine x_istore_n (pc' := 6) (L' := [some (.ref h), some (.int 0), some (.int 0), some (.int 0), none, none, none, none, none, none, none, none, none, none, none]) C dL_isSo_5 rfl rfl (Nat.le_of_ble_eq_true rfl) rfl ?_
  refine x_iconst (v := 0) (pc' := 7) C dL_isSo_6 rfl (by decide) ?_
  refine x_istore (pc' := 9) (L' := [some (.ref h), some (.int 0), some (.int 0), some (.int 0), some (.int 0), none, none, none, none, none, none, none, none, none, none]) C dL_isSo_7 rfl (Nat.le_of_ble_eq_true rfl) rfl ?_
  refine x_iconst (v := 0) (pc' := 10) C dL_isSo_9 rfl (by decide) ?_
  refine x_istore (pc' := 12) (L' := [some (.ref h), some (.int 0), some (.int 0), some (.int 0), some (.int 0), some (.int 0), none, none, none, none, none, none, none, none, none]) C dL_isSo_10 rfl (Nat.le_of_ble_eq_true rfl) rfl ?_
  refine x_iconst (v := 0) (pc' := 13) C dL_isSo_12 rfl (by decide) ?_
  refine x_istore (pc' := 15) (L' := [some (.ref h), some (.int 0), some (.int 0), some (.int 0), some (.int 0), some (.int 0), some (.int 0), none, none, none, none, none, none, none, none]) C dL_isSo_13 rfl (Nat.le_of_ble_eq_true rfl) rfl ?_
  refine x_iconst (v := 0) (pc' := 16) C dL_isSo_15 rfl (by decide) ?_
  refine x_istore (pc' := 18) (L' := [some (.ref h), some (.int 0), some (.int 0), some (.int 0), some (.int 0), some (.int 0), some (.int 0), some (.int 0), none, none, none, none, none, none, none]) C dL_isSo_16 rfl (Nat.le_of_ble_eq_true rfl) rfl ?_
  refine x_iconst (v := 0) (pc' := 19) C dL_isSo_18 rfl (by decide) ?_
  refine x_istore (pc' := 21) (L' := [some (.ref h), some (.int 0), some (.int 0), some (.int 0), some (.int 0), some (.int 0), some (.int 0), some (.int 0), some (.int 0), none, none, none, none, none, none]) C dL_isSo_19 rfl (Nat.le_of_ble_eq_true rfl) rfl ?_
  refine x_iconst (v := 1) (pc' := 22) C dL_isSo_21 rfl (by decide) ?_
  refine x_istore (pc' := 24) (L' := [some (.ref h), some (.int 0), some (.int 0), some (.int 0), some (.int 0), some (.int 0), some (.int 0), some (.int 0), some (.int 0), some (.int 1), none, none, none, none, none]) C dL_isSo_22 rfl (Nat.le_of_ble_eq_true rfl) rfl ?_
  refine x_iconst (v := 0) (pc' := 25) C dL_isSo_24 rfl (by decide) ?_
  refine x_istore (pc' := 27) (L' := [some (.ref h), some (.int 0), some (.int 0), some (.int 0), some (.int 0), some (.int 0), some (.int 0), some (.int 0), some (.int 0), some (.int 1), some (.int 0), none, none, none, none]) C dL_isSo_25 rfl (Nat.le_of_ble_eq_true rfl) rfl ?_
  have cont390 : ∀ (E_390 : CS) (x1_390 : Int32) (x2_390 : Int32) (x3_390 : Int32) (x4_390 : Int32) (x5_390 : Int32) (x6_390 : Int32) (x7_390 : Int32) (x8_390 : Int32) (x9_390 : Int32), RES = k_L_isSo_390 M N Q O E_390 x1_390 x2_390 x3_390 x4_390 x5_390 x6_390 x7_390 x8_390 x9_390 → X k 0 0 (cat [wMa h ad M, wSt (kg k) (ad 0) adN N, wHi (kg k) (ad 4) adQ Q, wRe (kg k) (ad 5) adE E_390, wOr (kg k) (ad 6) adO O]) 390 [some (.ref h), some (.int x1_390), some (.int x2_390), some (.int x3_390), some (.int x4_390), some (.int x5_390), some (.int x6_390), some (.int x7_390), some (.int x8_390), some (.int x9_390), none, none, none, none, none] [] := by
    intro E_390 x1_390 x2_390 x3_390 x4_390 x5_390 x6_390 x7_390 x8_390 x9_390 hRES
    unfold k_L_isSo_390 at hRES
    refine x_iload (pc' := 392) C dL_isSo_390 rfl rfl ?_
    refine x_if_eq (tgt := 489) (pc' := 395) C dL_isSo_392 (by decide) rfl (fun c1 => ?_) (fun c1 => ?_)
    · rw [if_pos c1] at hRES
      refine x_iconst (v := 0) (pc' := 490) C dL_isSo_489 rfl (by decide) ?_
      exact x_zret (b := false) C (Nat.zero_le _) (Nat.zero_le _) dL_isSo_490 ⟨by rw [hRES], by rw [hRES]⟩
    · rw [if_neg c1] at hRES
      refine x_iload_n (pc' := 396) C dL_isSo_395 rfl rfl rfl ?_
      refine x_aload_n (pc' := 397) C dL_isSo_396 rfl rfl rfl ?_
      refine x_iconst (v := 0) (pc' := 398) C dL_isSo_397 rfl (by decide) ?_
      obtain ⟨z2, ez2⟩ : ∃ z, z = (f_X6_count M N Q E_390 O 0) := ⟨_, rfl⟩
      replace hRES := bd hRES z2 ez2
      have hc := c_X6_count (kl k) (kg k) h ad M adN N adQ Q adE E_390 adO O 0
      rw [← ez2] at hc
      refine x_catWV (st := [.int x1_390]) (st2 := [.int z2.1, .int x1_390]) (pc' := 401) (wcs := [wMa h ad M, wSt (kg k) (ad 0) adN N, wHi (kg k) (ad 4) adQ Q, wRe (kg k) (ad 5) adE E_390, wOr (kg k) (ad 6) adO O]) (wrs := []) (wcs' := [wMa h ad M, wSt (kg k) (ad 0) adN N, wHi (kg k) (ad 4) adQ Q, wRe (kg k) (ad 5) adE z2.2, wOr (kg k) (ad 6) adO O]) C B [wMa h ad M, wSt (kg k) (ad 0) adN N, wHi (kg k) (ad 4) adQ Q, wRe (kg k) (ad 5) adE z2.2, wOr (kg k) (ad 6) adO O] hc rfl rfl cw_L_23 ok_X6_count rfl (by decide) rfl rfl [0, 1, 2, 3, 4] [0, 1, 2, 3, 4] rfl rfl rfl rfl rfl (Nat.le_of_ble_eq_true rfl) (Nat.zero_le _) (Nat.zero_le _) rfl dL_isSo_398 rfl rfl ?_
      refine x_icmp_ne (tgt := 489) (pc' := 404) C dL_isSo_401 (by decide) rfl (fun c3 => ?_) (fun c3 => ?_)
      · rw [if_neg c3] at hRES
        refine x_iconst (v := 0) (pc' := 490) C dL_isSo_489 rfl (by decide) ?_
        exact x_zret (b := false) C (Nat.zero_le _) (Nat.zero_le _) dL_isSo_490 ⟨by rw [hRES], by rw [hRES]⟩
      · rw [if_pos c3] at hRES
        refine x_iload_n (pc' := 405) C dL_isSo_404 rfl rfl rfl ?_
        refine x_aload_n (pc' := 406) C dL_isSo_405 rfl rfl rfl ?_
        refine x_iconst (v := 1) (pc' := 407) C dL_isSo_406 rfl (by decide) ?_
        obtain ⟨z4, ez4⟩ : ∃ z, z = (f_X6_count M N Q z2.2 O 1) := ⟨_, rfl⟩
        replace hRES := bd hRES z4 ez4
        have hc := c_X6_count (kl k) (kg k) h ad M adN N adQ Q adE z2.2 adO O 1
        rw [← ez4] at hc
        refine x_catWV (st := [.int x2_390]) (st2 := [.int z4.1, .int x2_390]) (pc' := 410) (wcs := [wMa h ad M, wSt (kg k) (ad 0) adN N, wHi (kg k) (ad 4) adQ Q, wRe (kg k) (ad 5) adE z2.2, wOr (kg k) (ad 6) adO O]) (wrs := []) (wcs' := [wMa h ad M, wSt (kg k) (ad 0) adN N, wHi (kg k) (ad 4) adQ Q, wRe (kg k) (ad 5) adE z4.2, wOr (kg k) (ad 6) adO O]) C B [wMa h ad M, wSt (kg k) (ad 0) adN N, wHi (kg k) (ad 4) adQ Q, wRe (kg k) (ad 5) adE z4.2, wOr (kg k) (ad 6) adO O] hc rfl rfl cw_L_23 ok_X6_count rfl (by decide) rfl rfl [0, 1, 2, 3, 4] [0, 1, 2, 3, 4] rfl rfl rfl rfl rfl (Nat.le_of_ble_eq_true rfl) (Nat.zero_le _) (Nat.zero_le _) rfl dL_isSo_407 rfl rfl ?_
        refine x_icmp_ne (tgt := 489) (pc' := 413) C dL_isSo_410 (by decide) rfl (fun c5 => ?_) (fun c5 => ?_)
        · rw [if_neg c5] at hRES
          refine x_iconst (v := 0) (pc' := 490) C dL_isSo_489 rfl (by decide) ?_
          exact x_zret (b := false) C (Nat.zero_le _) (Nat.zero_le _) dL_isSo_490 ⟨by rw [hRES], by rw [hRES]⟩
        · rw [if_pos c5] at hRES
          refine x_iload_n (pc' := 414) C dL_isSo_413 rfl rfl rfl ?_
          refine x_iload_n (pc' := 415) C dL_isSo_414 rfl rfl rfl ?_
          refine x_iadd (pc' := 416) (v := (x2_390 + x3_390)) C dL_isSo_415 rfl rfl ?_
          refine x_iload_n (pc' := 417) C dL_isSo_416 rfl rfl rfl ?_
          refine x_icmp_ne (tgt := 489) (pc' := 420) C dL_isSo_417 (by decide) rfl (fun c6 => ?_) (fun c6 => ?_)
          · rw [if_neg c6] at hRES
            refine x_iconst (v := 0) (pc' := 490) C dL_isSo_489 rfl (by decide) ?_
            exact x_zret (b := false) C (Nat.zero_le _) (Nat.zero_le _) dL_isSo_490 ⟨by rw [hRES], by rw [hRES]⟩
          · rw [if_pos c6] at hRES
            refine x_iload (pc' := 422) C dL_isSo_420 rfl rfl ?_
            refine x_aload_n (pc' := 423) C dL_isSo_422 rfl rfl rfl ?_
            refine x_bipush (v := 6) (pc' := 425) C dL_isSo_423 rfl (by decide) ?_
            obtain ⟨z7, ez7⟩ : ∃ z, z = (f_X6_count M N Q z4.2 O 6) := ⟨_, rfl⟩
            replace hRES := bd hRES z7 ez7
            have hc := c_X6_count (kl k) (kg k) h ad M adN N adQ Q adE z4.2 adO O 6
            rw [← ez7] at hc
            refine x_catWV (st := [.int x4_390]) (st2 := [.int z7.1, .int x4_390]) (pc' := 428) (wcs := [wMa h ad M, wSt (kg k) (ad 0) adN N, wHi (kg k) (ad 4) adQ Q, wRe (kg k) (ad 5) adE z4.2, wOr (kg k) (ad 6) adO O]) (wrs := []) (wcs' := [wMa h ad M, wSt (kg k) (ad 0) adN N, wHi (kg k) (ad 4) adQ Q, wRe (kg k) (ad 5) adE z7.2, wOr (kg k) (ad 6) adO O]) C B [wMa h ad M, wSt (kg k) (ad 0) adN N, wHi (kg k) (ad 4) adQ Q, wRe (kg k) (ad 5) adE z7.2, wOr (kg k) (ad 6) adO O] hc rfl rfl cw_L_23 ok_X6_count rfl (by decide) rfl rfl [0, 1, 2, 3, 4] [0, 1, 2, 3, 4] rfl rfl rfl rfl rfl (Nat.le_of_ble_eq_true rfl) (Nat.zero_le _) (Nat.zero_le _) rfl dL_isSo_425 rfl rfl ?_
            refine x_icmp_ne (tgt := 489) (pc' := 431) C dL_isSo_428 (by decide) rfl (fun c8 => ?_) (fun c8 => ?_)
            · rw [if_neg c8] at hRES
              refine x_iconst (v := 0) (pc' := 490) C dL_isSo_489 rfl (by decide) ?_
              exact x_zret (b := false) C (Nat.zero_le _) (Nat.zero_le _) dL_isSo_490 ⟨by rw [hRES], by rw [hRES]⟩
            · rw [if_pos c8] at hRES
              refine x_iload (pc' := 433) C dL_isSo_431 rfl rfl ?_
              refine x_aload_n (pc' := 434) C dL_isSo_433 rfl rfl rfl ?_
              refine x_iconst (v := 2) (pc' := 435) C dL_isSo_434 rfl (by decide) ?_
              obtain ⟨z9, ez9⟩ : ∃ z, z = (f_X6_count M N Q z7.2 O 2) := ⟨_, rfl⟩
              replace hRES := bd hRES z9 ez9
              have hc := c_X6_count (kl k) (kg k) h ad M adN N adQ Q adE z7.2 adO O 2
              rw [← ez9] at hc
              refine x_catWV (st := [.int x5_390]) (st2 := [.int z9.1, .int x5_390]) (pc' := 438) (wcs := [wMa h ad M, wSt (kg k) (ad 0) adN N, wHi (kg k) (ad 4) adQ Q, wRe (kg k) (ad 5) adE z7.2, wOr (kg k) (ad 6) adO O]) (wrs := []) (wcs' := [wMa h ad M, wSt (kg k) (ad 0) adN N, wHi (kg k) (ad 4) adQ Q, wRe (kg k) (ad 5) adE z9.2, wOr (kg k) (ad 6) adO O]) C B [wMa h ad M, wSt (kg k) (ad 0) adN N, wHi (kg k) (ad 4) adQ Q, wRe (kg k) (ad 5) adE z9.2, wOr (kg k) (ad 6) adO O] hc rfl rfl cw_L_23 ok_X6_count rfl (by decide) rfl rfl [0, 1, 2, 3, 4] [0, 1, 2, 3, 4] rfl rfl rfl rfl rfl (Nat.le_of_ble_eq_true rfl) (Nat.zero_le _) (Nat.zero_le _) rfl dL_isSo_435 rfl rfl ?_
              refine x_icmp_ne (tgt := 489) (pc' := 441) C dL_isSo_438 (by decide) rfl (fun c10 => ?_) (fun c10 => ?_)
              · rw [if_neg c10] at hRES
                refine x_iconst (v := 0) (pc' := 490) C dL_isSo_489 rfl (by decide) ?_
                exact x_zret (b := false) C (Nat.zero_le _) (Nat.zero_le _) dL_isSo_490 ⟨by rw [hRES], by rw [hRES]⟩
              · rw [if_pos c10] at hRES
                refine x_iload (pc' := 443) C dL_isSo_441 rfl rfl ?_
                refine x_aload_n (pc' := 444) C dL_isSo_443 rfl rfl rfl ?_
                refine x_iconst (v := 5) (pc' := 445) C dL_isSo_444 rfl (by decide) ?_
                obtain ⟨z11, ez11⟩ : ∃ z, z = (f_X6_count M N Q z9.2 O 5) := ⟨_, rfl⟩
                replace hRES := bd hRES z11 ez11
                have hc := c_X6_count (kl k) (kg k) h ad M adN N adQ Q adE z9.2 adO O 5
                rw [← ez11] at hc
                refine x_catWV (st := [.int x7_390]) (st2 := [.int z11.1, .int x7_390]) (pc' := 448) (wcs := [wMa h ad M, wSt (kg k) (ad 0) adN N, wHi (kg k) (ad 4) adQ Q, wRe (kg k) (ad 5) adE z9.2, wOr (kg k) (ad 6) adO O]) (wrs := []) (wcs' := [wMa h ad M, wSt (kg k) (ad 0) adN N, wHi (kg k) (ad 4) adQ Q, wRe (kg k) (ad 5) adE z11.2, wOr (kg k) (ad 6) adO O]) C B [wMa h ad M, wSt (kg k) (ad 0) adN N, wHi (kg k) (ad 4) adQ Q, wRe (kg k) (ad 5) adE z11.2, wOr (kg k) (ad 6) adO O] hc rfl rfl cw_L_23 ok_X6_count rfl (by decide) rfl rfl [0, 1, 2, 3, 4] [0, 1, 2, 3, 4] rfl rfl rfl rfl rfl (Nat.le_of_ble_eq_true rfl) (Nat.zero_le _) (Nat.zero_le _) rfl dL_isSo_445 rfl rfl ?_
                refine x_icmp_ne (tgt := 489) (pc' := 451) C dL_isSo_448 (by decide) rfl (fun c12 => ?_) (fun c12 => ?_)
                · rw [if_neg c12] at hRES
                  refine x_iconst (v := 0) (pc' := 490) C dL_isSo_489 rfl (by decide) ?_
                  exact x_zret (b := false) C (Nat.zero_le _) (Nat.zero_le _) dL_isSo_490 ⟨by rw [hRES], by rw [hRES]⟩
                · rw [if_pos c12] at hRES
                  refine x_iload (pc' := 453) C dL_isSo_451 rfl rfl ?_
                  refine x_aload_n (pc' := 454) C dL_isSo_453 rfl rfl rfl ?_
                  refine x_iconst (v := 3) (pc' := 455) C dL_isSo_454 rfl (by decide) ?_
                  obtain ⟨z13, ez13⟩ : ∃ z, z = (f_X6_count M N Q z11.2 O 3) := ⟨_, rfl⟩
                  replace hRES := bd hRES z13 ez13
                  have hc := c_X6_count (kl k) (kg k) h ad M adN N adQ Q adE z11.2 adO O 3
                  rw [← ez13] at hc
                  refine x_catWV (st := [.int x6_390]) (st2 := [.int z13.1, .int x6_390]) (pc' := 458) (wcs := [wMa h ad M, wSt (kg k) (ad 0) adN N, wHi (kg k) (ad 4) adQ Q, wRe (kg k) (ad 5) adE z11.2, wOr (kg k) (ad 6) adO O]) (wrs := []) (wcs' := [wMa h ad M, wSt (kg k) (ad 0) adN N, wHi (kg k) (ad 4) adQ Q, wRe (kg k) (ad 5) adE z13.2, wOr (kg k) (ad 6) adO O]) C B [wMa h ad M, wSt (kg k) (ad 0) adN N, wHi (kg k) (ad 4) adQ Q, wRe (kg k) (ad 5) adE z13.2, wOr (kg k) (ad 6) adO O] hc rfl rfl cw_L_23 ok_X6_count rfl (by decide) rfl rfl [0, 1, 2, 3, 4] [0, 1, 2, 3, 4] rfl rfl rfl rfl rfl (Nat.le_of_ble_eq_true rfl) (Nat.zero_le _) (Nat.zero_le _) rfl dL_isSo_455 rfl rfl ?_
                  refine x_icmp_gt (tgt := 489) (pc' := 461) C dL_isSo_458 (by decide) rfl (fun c14 => ?_) (fun c14 => ?_)
                  · rw [if_pos c14] at hRES
                    refine x_iconst (v := 0) (pc' := 490) C dL_isSo_489 rfl (by decide) ?_
                    exact x_zret (b := false) C (Nat.zero_le _) (Nat.zero_le _) dL_isSo_490 ⟨by rw [hRES], by rw [hRES]⟩
                  · rw [if_neg c14] at hRES
                    refine x_iload (pc' := 463) C dL_isSo_461 rfl rfl ?_
                    refine x_aload_n (pc' := 464) C dL_isSo_463 rfl rfl rfl ?_
                    refine x_bipush (v := 7) (pc' := 466) C dL_isSo_464 rfl (by decide) ?_
                    obtain ⟨z15, ez15⟩ : ∃ z, z = (f_X6_count M N Q z13.2 O 7) := ⟨_, rfl⟩
                    replace hRES := bd hRES z15 ez15
                    have hc := c_X6_count (kl k) (kg k) h ad M adN N adQ Q adE z13.2 adO O 7
                    rw [← ez15] at hc
                    refine x_catWV (st := [.int x8_390]) (st2 := [.int z15.1, .int x8_390]) (pc' := 469) (wcs := [wMa h ad M, wSt (kg k) (ad 0) adN N, wHi (kg k) (ad 4) adQ Q, wRe (kg k) (ad 5) adE z13.2, wOr (kg k) (ad 6) adO O]) (wrs := []) (wcs' := [wMa h ad M, wSt (kg k) (ad 0) adN N, wHi (kg k) (ad 4) adQ Q, wRe (kg k) (ad 5) adE z15.2, wOr (kg k) (ad 6) adO O]) C B [wMa h ad M, wSt (kg k) (ad 0) adN N, wHi (kg k) (ad 4) adQ Q, wRe (kg k) (ad 5) adE z15.2, wOr (kg k) (ad 6) adO O] hc rfl rfl cw_L_23 ok_X6_count rfl (by decide) rfl rfl [0, 1, 2, 3, 4] [0, 1, 2, 3, 4] rfl rfl rfl rfl rfl (Nat.le_of_ble_eq_true rfl) (Nat.zero_le _) (Nat.zero_le _) rfl dL_isSo_466 rfl rfl ?_
                    refine x_icmp_ne (tgt := 489) (pc' := 472) C dL_isSo_469 (by decide) rfl (fun c16 => ?_) (fun c16 => ?_)
                    · rw [if_neg c16] at hRES
                      refine x_iconst (v := 0) (pc' := 490) C dL_isSo_489 rfl (by decide) ?_
                      exact x_zret (b := false) C (Nat.zero_le _) (Nat.zero_le _) dL_isSo_490 ⟨by rw [hRES], by rw [hRES]⟩
                    · rw [if_pos c16] at hRES
                      refine x_aload_n (pc' := 473) C dL_isSo_472 rfl rfl rfl ?_
                      refine x_iconst (v := 4) (pc' := 474) C dL_isSo_473 rfl (by decide) ?_
                      obtain ⟨z17, ez17⟩ : ∃ z, z = (f_X6_count M N Q z15.2 O 4) := ⟨_, rfl⟩
                      replace hRES := bd hRES z17 ez17
                      have hc := c_X6_count (kl k) (kg k) h ad M adN N adQ Q adE z15.2 adO O 4
                      rw [← ez17] at hc
                      refine x_catWV (st := []) (st2 := [.int z17.1]) (pc' := 477) (wcs := [wMa h ad M, wSt (kg k) (ad 0) adN N, wHi (kg k) (ad 4) adQ Q, wRe (kg k) (ad 5) adE z15.2, wOr (kg k) (ad 6) adO O]) (wrs := []) (wcs' := [wMa h ad M, wSt (kg k) (ad 0) adN N, wHi (kg k) (ad 4) adQ Q, wRe (kg k) (ad 5) adE z17.2, wOr (kg k) (ad 6) adO O]) C B [wMa h ad M, wSt (kg k) (ad 0) adN N, wHi (kg k) (ad 4) adQ Q, wRe (kg k) (ad 5) adE z17.2, wOr (kg k) (ad 6) adO O] hc rfl rfl cw_L_23 ok_X6_count rfl (by decide) rfl rfl [0, 1, 2, 3, 4] [0, 1, 2, 3, 4] rfl rfl rfl rfl rfl (Nat.le_of_ble_eq_true rfl) (Nat.zero_le _) (Nat.zero_le _) rfl dL_isSo_474 rfl rfl ?_
                      refine x_aload_n (pc' := 478) C dL_isSo_477 rfl rfl rfl ?_
                      refine x_iconst (v := 3) (pc' := 479) C dL_isSo_478 rfl (by decide) ?_
                      obtain ⟨z18, ez18⟩ : ∃ z, z = (f_X6_count M N Q z17.2 O 3) := ⟨_, rfl⟩
                      replace hRES := bd hRES z18 ez18
                      have hc := c_X6_count (kl k) (kg k) h ad M adN N adQ Q adE z17.2 adO O 3
                      rw [← ez18] at hc
                      refine x_catWV (st := [.int z17.1]) (st2 := [.int z18.1, .int z17.1]) (pc' := 482) (wcs := [wMa h ad M, wSt (kg k) (ad 0) adN N, wHi (kg k) (ad 4) adQ Q, wRe (kg k) (ad 5) adE z17.2, wOr (kg k) (ad 6) adO O]) (wrs := []) (wcs' := [wMa h ad M, wSt (kg k) (ad 0) adN N, wHi (kg k) (ad 4) adQ Q, wRe (kg k) (ad 5) adE z18.2, wOr (kg k) (ad 6) adO O]) C B [wMa h ad M, wSt (kg k) (ad 0) adN N, wHi (kg k) (ad 4) adQ Q, wRe (kg k) (ad 5) adE z18.2, wOr (kg k) (ad 6) adO O] hc rfl rfl cw_L_23 ok_X6_count rfl (by decide) rfl rfl [0, 1, 2, 3, 4] [0, 1, 2, 3, 4] rfl rfl rfl rfl rfl (Nat.le_of_ble_eq_true rfl) (Nat.zero_le _) (Nat.zero_le _) rfl dL_isSo_479 rfl rfl ?_
                      refine x_icmp_lt (tgt := 489) (pc' := 485) C dL_isSo_482 (by decide) rfl (fun c19 => ?_) (fun c19 => ?_)
                      · rw [if_pos c19] at hRES
                        refine x_iconst (v := 0) (pc' := 490) C dL_isSo_489 rfl (by decide) ?_
                        exact x_zret (b := false) C (Nat.zero_le _) (Nat.zero_le _) dL_isSo_490 ⟨by rw [hRES], by rw [hRES]⟩
                      · rw [if_neg c19] at hRES
                        refine x_iconst (v := 1) (pc' := 486) C dL_isSo_485 rfl (by decide) ?_
                        refine x_goto (tgt := 490) C dL_isSo_486 (by decide) ?_
                        exact x_zret (b := true) C (Nat.zero_le _) (Nat.zero_le _) dL_isSo_490 ⟨by rw [hRES], by rw [hRES]⟩
  have loop27 : ∀ (n27 : Nat) (E_27 : CS) (x1_27 : Int32) (i10_27 : Nat) (x2_27 : Int32) (x3_27 : Int32) (x4_27 : Int32) (x5_27 : Int32) (x6_27 : Int32) (x7_27 : Int32) (x8_27 : Int32) (x9_27 : Int32), i10_27 ≤ 24 → 24 < i10_27 + n27 → RES = l_L_isSo_27 M N Q O n27 E_27 x1_27 i10_27 x2_27 x3_27 x4_27 x5_27 x6_27 x7_27 x8_27 x9_27 → X k 0 0 (cat [wMa h ad M, wSt (kg k) (ad 0) adN N, wHi (kg k) (ad 4) adQ Q, wRe (kg k) (ad 5) adE E_27, wOr (kg k) (ad 6) adO O]) 27 [some (.ref h), some (.int x1_27), some (.int x2_27), some (.int x3_27), some (.int x4_27), some (.int x5_27), some (.int x6_27), some (.int x7_27), some (.int x8_27), some (.int x9_27), some (.int (nI i10_27)), none, none, none, none] [] := by
    intro n27
    induction n27 with
    | zero =>
      intro E_27 x1_27 i10_27 x2_27 x3_27 x4_27 x5_27 x6_27 x7_27 x8_27 x9_27 hb27 hf27 hRES
      omega
    | succ n27 ih27 =>
      intro E_27 x1_27 i10_27 x2_27 x3_27 x4_27 x5_27 x6_27 x7_27 x8_27 x9_27 hb27 hf27 hRES
      rw [l_L_isSo_27] at hRES
      refine x_iload (pc' := 29) C dL_isSo_27 rfl rfl ?_
      refine x_bipush (v := 24) (pc' := 31) C dL_isSo_29 rfl (by decide) ?_
      refine x_icmpN_ge (tgt := 390) (pc' := 34) C i10_27 24 dL_isSo_31 (by decide) rfl (by omega) (by omega) (fun c20 => ?_) (fun c20 => ?_)
      · rw [if_neg c20] at hRES
        refine x_forget (L' := [some (.ref h), some (.int x1_27), some (.int x2_27), some (.int x3_27), some (.int x4_27), some (.int x5_27), some (.int x6_27), some (.int x7_27), some (.int x8_27), some (.int x9_27), none, none, none, none, none]) [0, 1, 2, 3, 4, 5, 6, 7, 8, 9] rfl rfl ?_
        exact cont390 E_27 x1_27 x2_27 x3_27 x4_27 x5_27 x6_27 x7_27 x8_27 x9_27 hRES
      · rw [if_pos c20] at hRES
        refine x_aload_n (pc' := 35) C dL_isSo_34 rfl rfl rfl ?_
        refine x_iload (pc' := 37) C dL_isSo_35 rfl rfl ?_
        refine x_iconst (v := 3) (pc' := 38) C dL_isSo_37 rfl (by decide) ?_
        obtain ⟨z21, ez21⟩ : ∃ z, z = (f_X6_version M N E_27 (nI i10_27) 3) := ⟨_, rfl⟩
        replace hRES := bd hRES z21 ez21
        have hc := c_X6_version (kl k) (kg k) h ad M adN N adE E_27 (nI i10_27) 3
        rw [← ez21] at hc
        refine x_catWV (st := []) (st2 := [.int z21.1]) (pc' := 41) (wcs := [wMa h ad M, wSt (kg k) (ad 0) adN N, wRe (kg k) (ad 5) adE E_27]) (wrs := [wHi (kg k) (ad 4) adQ Q, wOr (kg k) (ad 6) adO O]) (wcs' := [wMa h ad M, wSt (kg k) (ad 0) adN N, wRe (kg k) (ad 5) adE z21.2]) C B [wMa h ad M, wSt (kg k) (ad 0) adN N, wHi (kg k) (ad 4) adQ Q, wRe (kg k) (ad 5) adE z21.2, wOr (kg k) (ad 6) adO O] hc rfl rfl cw_L_14 ok_X6_version rfl (by decide) rfl rfl [2, 4, 0, 1, 3] [2, 3, 0, 4, 1] rfl rfl rfl rfl rfl (Nat.le_of_ble_eq_true rfl) (Nat.zero_le _) (Nat.zero_le _) rfl dL_isSo_38 rfl rfl ?_
        refine x_istore (pc' := 43) (L' := [some (.ref h), some (.int x1_27), some (.int x2_27), some (.int x3_27), some (.int x4_27), some (.int x5_27), some (.int x6_27), some (.int x7_27), some (.int x8_27), some (.int x9_27), some (.int (nI i10_27)), some (.int z21.1), none, none, none]) C dL_isSo_41 rfl (Nat.le_of_ble_eq_true rfl) rfl ?_
        refine x_iload (pc' := 45) C dL_isSo_43 rfl rfl ?_
        have join384 : ∀ (E_384 : CS) (x1_384 : Int32) (x2_384 : Int32) (x3_384 : Int32) (x4_384 : Int32) (x5_384 : Int32) (x6_384 : Int32) (x7_384 : Int32) (x8_384 : Int32) (x9_384 : Int32), RES = j_L_isSo_384 (fun E_27 x1_27 i10_27 x2_27 x3_27 x4_27 x5_27 x6_27 x7_27 x8_27 x9_27 => l_L_isSo_27 M N Q O n27 E_27 x1_27 i10_27 x2_27 x3_27 x4_27 x5_27 x6_27 x7_27 x8_27 x9_27) i10_27 E_384 x1_384 x2_384 x3_384 x4_384 x5_384 x6_384 x7_384 x8_384 x9_384 → X k 0 0 (cat [wMa h ad M, wSt (kg k) (ad 0) adN N, wHi (kg k) (ad 4) adQ Q, wRe (kg k) (ad 5) adE E_384, wOr (kg k) (ad 6) adO O]) 384 [some (.ref h), some (.int x1_384), some (.int x2_384), some (.int x3_384), some (.int x4_384), some (.int x5_384), some (.int x6_384), some (.int x7_384), some (.int x8_384), some (.int x9_384), some (.int (nI i10_27)), none, none, none, none] [] := by
          intro E_384 x1_384 x2_384 x3_384 x4_384 x5_384 x6_384 x7_384 x8_384 x9_384 hRES
          unfold j_L_isSo_384 at hRES
          refine x_iinc (pc' := 387) (v := (nI (i10_27 + 1))) (L' := [some (.ref h), some (.int x1_384), some (.int x2_384), some (.int x3_384), some (.int x4_384), some (.int x5_384), some (.int x6_384), some (.int x7_384), some (.int x8_384), some (.int x9_384), some (.int (nI (i10_27 + 1))), none, none, none, none]) C dL_isSo_384 rfl rfl (nI_add i10_27 1) (Nat.le_of_ble_eq_true rfl) rfl ?_
          refine x_goto (tgt := 27) C dL_isSo_387 (by decide) ?_
          exact ih27 E_384 x1_384 (i10_27 + 1) x2_384 x3_384 x4_384 x5_384 x6_384 x7_384 x8_384 x9_384 (by omega) (by omega) hRES
        refine x_if_lt (tgt := 384) (pc' := 48) C dL_isSo_45 (by decide) rfl (fun c22 => ?_) (fun c22 => ?_)
        · rw [if_pos c22] at hRES
          refine x_forget (L' := [some (.ref h), some (.int x1_27), some (.int x2_27), some (.int x3_27), some (.int x4_27), some (.int x5_27), some (.int x6_27), some (.int x7_27), some (.int x8_27), some (.int x9_27), some (.int (nI i10_27)), none, none, none, none]) [0, 1, 2, 3, 4, 5, 6, 7, 8, 9, 10] rfl rfl ?_
          exact join384 z21.2 x1_27 x2_27 x3_27 x4_27 x5_27 x6_27 x7_27 x8_27 x9_27 hRES
        · rw [if_neg c22] at hRES
          refine x_aload_n (pc' := 49) C dL_isSo_48 rfl rfl rfl ?_
          refine x_iload (pc' := 51) C dL_isSo_49 rfl rfl ?_
          refine x_iconst (v := 0) (pc' := 52) C dL_isSo_51 rfl (by decide) ?_
          obtain ⟨z23, ez23⟩ : ∃ z, z = (f_X6_version M N z21.2 (nI i10_27) 0) := ⟨_, rfl⟩
          replace hRES := bd hRES z23 ez23
          have hc := c_X6_version (kl k) (kg k) h ad M adN N adE z21.2 (nI i10_27) 0
          rw [← ez23] at hc
          refine x_catWV (st := []) (st2 := [.int z23.1]) (pc' := 55) (wcs := [wMa h ad M, wSt (kg k) (ad 0) adN N, wRe (kg k) (ad 5) adE z21.2]) (wrs := [wHi (kg k) (ad 4) adQ Q, wOr (kg k) (ad 6) adO O]) (wcs' := [wMa h ad M, wSt (kg k) (ad 0) adN N, wRe (kg k) (ad 5) adE z23.2]) C B [wMa h ad M, wSt (kg k) (ad 0) adN N, wHi (kg k) (ad 4) adQ Q, wRe (kg k) (ad 5) adE z23.2, wOr (kg k) (ad 6) adO O] hc rfl rfl cw_L_14 ok_X6_version rfl (by decide) rfl rfl [2, 4, 0, 1, 3] [2, 3, 0, 4, 1] rfl rfl rfl rfl rfl (Nat.le_of_ble_eq_true rfl) (Nat.zero_le _) (Nat.zero_le _) rfl dL_isSo_52 rfl rfl ?_
          refine x_istore (pc' := 57) (L' := [some (.ref h), some (.int x1_27), some (.int x2_27), some (.int x3_27), some (.int x4_27), some (.int x5_27), some (.int x6_27), some (.int x7_27), some (.int x8_27), some (.int x9_27), some (.int (nI i10_27)), some (.int z21.1), some (.int z23.1), none, none]) C dL_isSo_55 rfl (Nat.le_of_ble_eq_true rfl) rfl ?_
          refine x_iload (pc' := 59) C dL_isSo_57 rfl rfl ?_
          have join74 : ∀ (y0_74 : Int32), RES = j_L_isSo_74 (fun E_27 x1_27 i10_27 x2_27 x3_27 x4_27 x5_27 x6_27 x7_27 x8_27 x9_27 => l_L_isSo_27 M N Q O n27 E_27 x1_27 i10_27 x2_27 x3_27 x4_27 x5_27 x6_27 x7_27 x8_27 x9_27) M N x1_27 i10_27 x2_27 x3_27 x4_27 x5_27 x6_27 x7_27 x8_27 x9_27 z21 z23 y0_74 → X k 0 0 (cat [wMa h ad M, wSt (kg k) (ad 0) adN N, wHi (kg k) (ad 4) adQ Q, wRe (kg k) (ad 5) adE z23.2, wOr (kg k) (ad 6) adO O]) 74 [some (.ref h), some (.int x1_27), some (.int x2_27), some (.int x3_27), some (.int x4_27), some (.int x5_27), some (.int x6_27), some (.int x7_27), some (.int x8_27), some (.int x9_27), some (.int (nI i10_27)), some (.int z21.1), some (.int z23.1), none, none] [.int y0_74] := by
            intro y0_74 hRES
            unfold j_L_isSo_74 at hRES
            refine x_istore (pc' := 76) (L' := [some (.ref h), some (.int x1_27), some (.int x2_27), some (.int x3_27), some (.int x4_27), some (.int x5_27), some (.int x6_27), some (.int x7_27), some (.int x8_27), some (.int x9_27), some (.int (nI i10_27)), some (.int z21.1), some (.int z23.1), some (.int y0_74), none]) C dL_isSo_74 rfl (Nat.le_of_ble_eq_true rfl) rfl ?_
            refine x_aload_n (pc' := 77) C dL_isSo_76 rfl rfl rfl ?_
            refine x_iload (pc' := 79) C dL_isSo_77 rfl rfl ?_
            refine x_iconst (v := 1) (pc' := 80) C dL_isSo_79 rfl (by decide) ?_
            obtain ⟨z24, ez24⟩ : ∃ z, z = (f_X6_version M N z23.2 (nI i10_27) 1) := ⟨_, rfl⟩
            replace hRES := bd hRES z24 ez24
            have hc := c_X6_version (kl k) (kg k) h ad M adN N adE z23.2 (nI i10_27) 1
            rw [← ez24] at hc
            refine x_catWV (st := []) (st2 := [.int z24.1]) (pc' := 83) (wcs := [wMa h ad M, wSt (kg k) (ad 0) adN N, wRe (kg k) (ad 5) adE z23.2]) (wrs := [wHi (kg k) (ad 4) adQ Q, wOr (kg k) (ad 6) adO O]) (wcs' := [wMa h ad M, wSt (kg k) (ad 0) adN N, wRe (kg k) (ad 5) adE z24.2]) C B [wMa h ad M, wSt (kg k) (ad 0) adN N, wHi (kg k) (ad 4) adQ Q, wRe (kg k) (ad 5) adE z24.2, wOr (kg k) (ad 6) adO O] hc rfl rfl cw_L_14 ok_X6_version rfl (by decide) rfl rfl [2, 4, 0, 1, 3] [2, 3, 0, 4, 1] rfl rfl rfl rfl rfl (Nat.le_of_ble_eq_true rfl) (Nat.zero_le _) (Nat.zero_le _) rfl dL_isSo_80 rfl rfl ?_
            refine x_iconst (v := 1) (pc' := 84) C dL_isSo_83 rfl (by decide) ?_
            have join92 : ∀ (y0_92 : Int32), RES = j_L_isSo_92 (fun E_27 x1_27 i10_27 x2_27 x3_27 x4_27 x5_27 x6_27 x7_27 x8_27 x9_27 => l_L_isSo_27 M N Q O n27 E_27 x1_27 i10_27 x2_27 x3_27 x4_27 x5_27 x6_27 x7_27 x8_27 x9_27) M N x1_27 i10_27 x2_27 x3_27 x4_27 x5_27 x6_27 x7_27 x8_27 x9_27 z21 z23 y0_74 z24 y0_92 → X k 0 0 (cat [wMa h ad M, wSt (kg k) (ad 0) adN N, wHi (kg k) (ad 4) adQ Q, wRe (kg k) (ad 5) adE z24.2, wOr (kg k) (ad 6) adO O]) 92 [some (.ref h), some (.int x1_27), some (.int x2_27), some (.int x3_27), some (.int x4_27), some (.int x5_27), some (.int x6_27), some (.int x7_27), some (.int x8_27), some (.int x9_27), some (.int (nI i10_27)), some (.int z21.1), some (.int z23.1), some (.int y0_74), none] [.int y0_92] := by
              intro y0_92 hRES
              unfold j_L_isSo_92 at hRES
              refine x_istore (pc' := 94) (L' := [some (.ref h), some (.int x1_27), some (.int x2_27), some (.int x3_27), some (.int x4_27), some (.int x5_27), some (.int x6_27), some (.int x7_27), some (.int x8_27), some (.int x9_27), some (.int (nI i10_27)), some (.int z21.1), some (.int z23.1), some (.int y0_74), some (.int y0_92)]) C dL_isSo_92 rfl (Nat.le_of_ble_eq_true rfl) rfl ?_
              refine x_iinc (pc' := 97) (v := (x1_27 + 1)) (L' := [some (.ref h), some (.int (x1_27 + 1)), some (.int x2_27), some (.int x3_27), some (.int x4_27), some (.int x5_27), some (.int x6_27), some (.int x7_27), some (.int x8_27), some (.int x9_27), some (.int (nI i10_27)), some (.int z21.1), some (.int z23.1), some (.int y0_74), some (.int y0_92)]) C dL_isSo_94 rfl rfl rfl (Nat.le_of_ble_eq_true rfl) rfl ?_
              refine x_iload_n (pc' := 98) C dL_isSo_97 rfl rfl rfl ?_
              refine x_iload (pc' := 100) C dL_isSo_98 rfl rfl ?_
              refine x_iload (pc' := 102) C dL_isSo_100 rfl rfl ?_
              have join110 : ∀ (y1_110 : Int32), RES = j_L_isSo_110 (fun E_27 x1_27 i10_27 x2_27 x3_27 x4_27 x5_27 x6_27 x7_27 x8_27 x9_27 => l_L_isSo_27 M N Q O n27 E_27 x1_27 i10_27 x2_27 x3_27 x4_27 x5_27 x6_27 x7_27 x8_27 x9_27) M N x1_27 i10_27 x2_27 x3_27 x4_27 x5_27 x6_27 x7_27 x8_27 x9_27 z21 z23 y0_74 z24 y0_92 y1_110 → X k 0 0 (cat [wMa h ad M, wSt (kg k) (ad 0) adN N, wHi (kg k) (ad 4) adQ Q, wRe (kg k) (ad 5) adE z24.2, wOr (kg k) (ad 6) adO O]) 110 [some (.ref h), some (.int (x1_27 + 1)), none, some (.int x3_27), some (.int x4_27), some (.int x5_27), some (.int x6_27), some (.int x7_27), some (.int x8_27), some (.int x9_27), some (.int (nI i10_27)), some (.int z21.1), some (.int z23.1), some (.int y0_74), some (.int y0_92)] [.int y1_110, .int x2_27] := by
                intro y1_110 hRES
                unfold j_L_isSo_110 at hRES
                refine x_iadd (pc' := 111) (v := (x2_27 + y1_110)) C dL_isSo_110 rfl rfl ?_
                refine x_istore_n (pc' := 112) (L' := [some (.ref h), some (.int (x1_27 + 1)), some (.int (x2_27 + y1_110)), some (.int x3_27), some (.int x4_27), some (.int x5_27), some (.int x6_27), some (.int x7_27), some (.int x8_27), some (.int x9_27), some (.int (nI i10_27)), some (.int z21.1), some (.int z23.1), some (.int y0_74), some (.int y0_92)]) C dL_isSo_111 rfl rfl (Nat.le_of_ble_eq_true rfl) rfl ?_
                refine x_iload_n (pc' := 113) C dL_isSo_112 rfl rfl rfl ?_
                refine x_iload (pc' := 115) C dL_isSo_113 rfl rfl ?_
                have join123 : ∀ (y1_123 : Int32), RES = j_L_isSo_123 (fun E_27 x1_27 i10_27 x2_27 x3_27 x4_27 x5_27 x6_27 x7_27 x8_27 x9_27 => l_L_isSo_27 M N Q O n27 E_27 x1_27 i10_27 x2_27 x3_27 x4_27 x5_27 x6_27 x7_27 x8_27 x9_27) M N x1_27 i10_27 x2_27 x3_27 x4_27 x5_27 x6_27 x7_27 x8_27 x9_27 z21 z23 y0_74 z24 y0_92 y1_110 y1_123 → X k 0 0 (cat [wMa h ad M, wSt (kg k) (ad 0) adN N, wHi (kg k) (ad 4) adQ Q, wRe (kg k) (ad 5) adE z24.2, wOr (kg k) (ad 6) adO O]) 123 [some (.ref h), some (.int (x1_27 + 1)), some (.int (x2_27 + y1_110)), none, some (.int x4_27), some (.int x5_27), some (.int x6_27), some (.int x7_27), some (.int x8_27), some (.int x9_27), some (.int (nI i10_27)), some (.int z21.1), some (.int z23.1), some (.int y0_74), some (.int y0_92)] [.int y1_123, .int x3_27] := by
                  intro y1_123 hRES
                  unfold j_L_isSo_123 at hRES
                  refine x_iadd (pc' := 124) (v := (x3_27 + y1_123)) C dL_isSo_123 rfl rfl ?_
                  refine x_istore_n (pc' := 125) (L' := [some (.ref h), some (.int (x1_27 + 1)), some (.int (x2_27 + y1_110)), some (.int (x3_27 + y1_123)), some (.int x4_27), some (.int x5_27), some (.int x6_27), some (.int x7_27), some (.int x8_27), some (.int x9_27), some (.int (nI i10_27)), some (.int z21.1), some (.int z23.1), some (.int y0_74), some (.int y0_92)]) C dL_isSo_124 rfl rfl (Nat.le_of_ble_eq_true rfl) rfl ?_
                  refine x_iload (pc' := 127) C dL_isSo_125 rfl rfl ?_
                  refine x_iload (pc' := 129) C dL_isSo_127 rfl rfl ?_
                  have join142 : ∀ (y1_142 : Int32), RES = j_L_isSo_142 (fun E_27 x1_27 i10_27 x2_27 x3_27 x4_27 x5_27 x6_27 x7_27 x8_27 x9_27 => l_L_isSo_27 M N Q O n27 E_27 x1_27 i10_27 x2_27 x3_27 x4_27 x5_27 x6_27 x7_27 x8_27 x9_27) M N x1_27 i10_27 x2_27 x3_27 x4_27 x5_27 x6_27 x7_27 x8_27 x9_27 z21 z23 y0_74 z24 y0_92 y1_110 y1_123 y1_142 → X k 0 0 (cat [wMa h ad M, wSt (kg k) (ad 0) adN N, wHi (kg k) (ad 4) adQ Q, wRe (kg k) (ad 5) adE z24.2, wOr (kg k) (ad 6) adO O]) 142 [some (.ref h), some (.int (x1_27 + 1)), some (.int (x2_27 + y1_110)), some (.int (x3_27 + y1_123)), none, some (.int x5_27), some (.int x6_27), some (.int x7_27), some (.int x8_27), some (.int x9_27), some (.int (nI i10_27)), some (.int z21.1), some (.int z23.1), some (.int y0_74), some (.int y0_92)] [.int y1_142, .int x4_27] := by
                    intro y1_142 hRES
                    unfold j_L_isSo_142 at hRES
                    refine x_iadd (pc' := 143) (v := (x4_27 + y1_142)) C dL_isSo_142 rfl rfl ?_
                    refine x_istore (pc' := 145) (L' := [some (.ref h), some (.int (x1_27 + 1)), some (.int (x2_27 + y1_110)), some (.int (x3_27 + y1_123)), some (.int (x4_27 + y1_142)), some (.int x5_27), some (.int x6_27), some (.int x7_27), some (.int x8_27), some (.int x9_27), some (.int (nI i10_27)), some (.int z21.1), some (.int z23.1), some (.int y0_74), some (.int y0_92)]) C dL_isSo_143 rfl (Nat.le_of_ble_eq_true rfl) rfl ?_
                    refine x_iload (pc' := 147) C dL_isSo_145 rfl rfl ?_
                    refine x_iload (pc' := 149) C dL_isSo_147 rfl rfl ?_
                    refine x_iload (pc' := 151) C dL_isSo_149 rfl rfl ?_
                    have join160 : ∀ (y1_160 : Int32), RES = j_L_isSo_160 (fun E_27 x1_27 i10_27 x2_27 x3_27 x4_27 x5_27 x6_27 x7_27 x8_27 x9_27 => l_L_isSo_27 M N Q O n27 E_27 x1_27 i10_27 x2_27 x3_27 x4_27 x5_27 x6_27 x7_27 x8_27 x9_27) M N x1_27 i10_27 x2_27 x3_27 x4_27 x5_27 x6_27 x7_27 x8_27 x9_27 z21 z23 y0_74 z24 y0_92 y1_110 y1_123 y1_142 y1_160 → X k 0 0 (cat [wMa h ad M, wSt (kg k) (ad 0) adN N, wHi (kg k) (ad 4) adQ Q, wRe (kg k) (ad 5) adE z24.2, wOr (kg k) (ad 6) adO O]) 160 [some (.ref h), some (.int (x1_27 + 1)), some (.int (x2_27 + y1_110)), some (.int (x3_27 + y1_123)), some (.int (x4_27 + y1_142)), none, some (.int x6_27), some (.int x7_27), some (.int x8_27), some (.int x9_27), some (.int (nI i10_27)), some (.int z21.1), some (.int z23.1), some (.int y0_74), some (.int y0_92)] [.int y1_160, .int x5_27] := by
                      intro y1_160 hRES
                      unfold j_L_isSo_160 at hRES
                      refine x_iload (pc' := 162) C dL_isSo_160 rfl rfl ?_
                      have join175 : ∀ (y2_175 : Int32), RES = j_L_isSo_175 (fun E_27 x1_27 i10_27 x2_27 x3_27 x4_27 x5_27 x6_27 x7_27 x8_27 x9_27 => l_L_isSo_27 M N Q O n27 E_27 x1_27 i10_27 x2_27 x3_27 x4_27 x5_27 x6_27 x7_27 x8_27 x9_27) M N x1_27 i10_27 x2_27 x3_27 x4_27 x5_27 x6_27 x7_27 x8_27 x9_27 z21 z23 z24 y0_92 y1_110 y1_123 y1_142 y1_160 y2_175 → X k 0 0 (cat [wMa h ad M, wSt (kg k) (ad 0) adN N, wHi (kg k) (ad 4) adQ Q, wRe (kg k) (ad 5) adE z24.2, wOr (kg k) (ad 6) adO O]) 175 [some (.ref h), some (.int (x1_27 + 1)), some (.int (x2_27 + y1_110)), some (.int (x3_27 + y1_123)), some (.int (x4_27 + y1_142)), none, some (.int x6_27), some (.int x7_27), some (.int x8_27), some (.int x9_27), some (.int (nI i10_27)), some (.int z21.1), some (.int z23.1), none, some (.int y0_92)] [.int y2_175, .int y1_160, .int x5_27] := by
                        intro y2_175 hRES
                        unfold j_L_isSo_175 at hRES
                        refine x_iadd (pc' := 176) (v := (y1_160 + y2_175)) C dL_isSo_175 rfl rfl ?_
                        refine x_iadd (pc' := 177) (v := (x5_27 + (y1_160 + y2_175))) C dL_isSo_176 rfl rfl ?_
                        refine x_istore (pc' := 179) (L' := [some (.ref h), some (.int (x1_27 + 1)), some (.int (x2_27 + y1_110)), some (.int (x3_27 + y1_123)), some (.int (x4_27 + y1_142)), some (.int (x5_27 + (y1_160 + y2_175))), some (.int x6_27), some (.int x7_27), some (.int x8_27), some (.int x9_27), some (.int (nI i10_27)), some (.int z21.1), some (.int z23.1), none, some (.int y0_92)]) C dL_isSo_177 rfl (Nat.le_of_ble_eq_true rfl) rfl ?_
                        refine x_iload (pc' := 181) C dL_isSo_179 rfl rfl ?_
                        refine x_aload_n (pc' := 182) C dL_isSo_181 rfl rfl rfl ?_
                        refine x_iload (pc' := 184) C dL_isSo_182 rfl rfl ?_
                        refine x_bipush (v := 6) (pc' := 186) C dL_isSo_184 rfl (by decide) ?_
                        obtain ⟨z25, ez25⟩ : ∃ z, z = (f_X6_version M N z24.2 (nI i10_27) 6) := ⟨_, rfl⟩
                        replace hRES := bd hRES z25 ez25
                        have hc := c_X6_version (kl k) (kg k) h ad M adN N adE z24.2 (nI i10_27) 6
                        rw [← ez25] at hc
                        refine x_catWV (st := [.int x7_27]) (st2 := [.int z25.1, .int x7_27]) (pc' := 189) (wcs := [wMa h ad M, wSt (kg k) (ad 0) adN N, wRe (kg k) (ad 5) adE z24.2]) (wrs := [wHi (kg k) (ad 4) adQ Q, wOr (kg k) (ad 6) adO O]) (wcs' := [wMa h ad M, wSt (kg k) (ad 0) adN N, wRe (kg k) (ad 5) adE z25.2]) C B [wMa h ad M, wSt (kg k) (ad 0) adN N, wHi (kg k) (ad 4) adQ Q, wRe (kg k) (ad 5) adE z25.2, wOr (kg k) (ad 6) adO O] hc rfl rfl cw_L_14 ok_X6_version rfl (by decide) rfl rfl [2, 4, 0, 1, 3] [2, 3, 0, 4, 1] rfl rfl rfl rfl rfl (Nat.le_of_ble_eq_true rfl) (Nat.zero_le _) (Nat.zero_le _) rfl dL_isSo_186 rfl rfl ?_
                        have join197 : ∀ (y1_197 : Int32), RES = j_L_isSo_197 (fun E_27 x1_27 i10_27 x2_27 x3_27 x4_27 x5_27 x6_27 x7_27 x8_27 x9_27 => l_L_isSo_27 M N Q O n27 E_27 x1_27 i10_27 x2_27 x3_27 x4_27 x5_27 x6_27 x7_27 x8_27 x9_27) M N x1_27 i10_27 x2_27 x3_27 x4_27 x5_27 x6_27 x7_27 x8_27 x9_27 z21 z23 y0_92 y1_110 y1_123 y1_142 y1_160 y2_175 z25 y1_197 → X k 0 0 (cat [wMa h ad M, wSt (kg k) (ad 0) adN N, wHi (kg k) (ad 4) adQ Q, wRe (kg k) (ad 5) adE z25.2, wOr (kg k) (ad 6) adO O]) 197 [some (.ref h), some (.int (x1_27 + 1)), some (.int (x2_27 + y1_110)), some (.int (x3_27 + y1_123)), some (.int (x4_27 + y1_142)), some (.int (x5_27 + (y1_160 + y2_175))), some (.int x6_27), none, some (.int x8_27), some (.int x9_27), some (.int (nI i10_27)), some (.int z21.1), some (.int z23.1), none, some (.int y0_92)] [.int y1_197, .int x7_27] := by
                          intro y1_197 hRES
                          unfold j_L_isSo_197 at hRES
                          refine x_iadd (pc' := 198) (v := (x7_27 + y1_197)) C dL_isSo_197 rfl rfl ?_
                          refine x_istore (pc' := 200) (L' := [some (.ref h), some (.int (x1_27 + 1)), some (.int (x2_27 + y1_110)), some (.int (x3_27 + y1_123)), some (.int (x4_27 + y1_142)), some (.int (x5_27 + (y1_160 + y2_175))), some (.int x6_27), some (.int (x7_27 + y1_197)), some (.int x8_27), some (.int x9_27), some (.int (nI i10_27)), some (.int z21.1), some (.int z23.1), none, some (.int y0_92)]) C dL_isSo_198 rfl (Nat.le_of_ble_eq_true rfl) rfl ?_
                          refine x_iload (pc' := 202) C dL_isSo_200 rfl rfl ?_
                          refine x_aload_n (pc' := 203) C dL_isSo_202 rfl rfl rfl ?_
                          refine x_iload (pc' := 205) C dL_isSo_203 rfl rfl ?_
                          refine x_bipush (v := 6) (pc' := 207) C dL_isSo_205 rfl (by decide) ?_
                          obtain ⟨z26, ez26⟩ : ∃ z, z = (f_X6_version M N z25.2 (nI i10_27) 6) := ⟨_, rfl⟩
                          replace hRES := bd hRES z26 ez26
                          have hc := c_X6_version (kl k) (kg k) h ad M adN N adE z25.2 (nI i10_27) 6
                          rw [← ez26] at hc
                          refine x_catWV (st := [.int x6_27]) (st2 := [.int z26.1, .int x6_27]) (pc' := 210) (wcs := [wMa h ad M, wSt (kg k) (ad 0) adN N, wRe (kg k) (ad 5) adE z25.2]) (wrs := [wHi (kg k) (ad 4) adQ Q, wOr (kg k) (ad 6) adO O]) (wcs' := [wMa h ad M, wSt (kg k) (ad 0) adN N, wRe (kg k) (ad 5) adE z26.2]) C B [wMa h ad M, wSt (kg k) (ad 0) adN N, wHi (kg k) (ad 4) adQ Q, wRe (kg k) (ad 5) adE z26.2, wOr (kg k) (ad 6) adO O] hc rfl rfl cw_L_14 ok_X6_version rfl (by decide) rfl rfl [2, 4, 0, 1, 3] [2, 3, 0, 4, 1] rfl rfl rfl rfl rfl (Nat.le_of_ble_eq_true rfl) (Nat.zero_le _) (Nat.zero_le _) rfl dL_isSo_207 rfl rfl ?_
                          refine x_iadd (pc' := 211) (v := (x6_27 + z26.1)) C dL_isSo_210 rfl rfl ?_
                          refine x_istore (pc' := 213) (L' := [some (.ref h), some (.int (x1_27 + 1)), some (.int (x2_27 + y1_110)), some (.int (x3_27 + y1_123)), some (.int (x4_27 + y1_142)), some (.int (x5_27 + (y1_160 + y2_175))), some (.int (x6_27 + z26.1)), some (.int (x7_27 + y1_197)), some (.int x8_27), some (.int x9_27), some (.int (nI i10_27)), some (.int z21.1), some (.int z23.1), none, some (.int y0_92)]) C dL_isSo_211 rfl (Nat.le_of_ble_eq_true rfl) rfl ?_
                          refine x_aload_n (pc' := 214) C dL_isSo_213 rfl rfl rfl ?_
                          refine x_iload (pc' := 216) C dL_isSo_214 rfl rfl ?_
                          refine x_iconst (v := 4) (pc' := 217) C dL_isSo_216 rfl (by decide) ?_
                          obtain ⟨z27, ez27⟩ : ∃ z, z = (f_X6_version M N z26.2 (nI i10_27) 4) := ⟨_, rfl⟩
                          replace hRES := bd hRES z27 ez27
                          have hc := c_X6_version (kl k) (kg k) h ad M adN N adE z26.2 (nI i10_27) 4
                          rw [← ez27] at hc
                          refine x_catWV (st := []) (st2 := [.int z27.1]) (pc' := 220) (wcs := [wMa h ad M, wSt (kg k) (ad 0) adN N, wRe (kg k) (ad 5) adE z26.2]) (wrs := [wHi (kg k) (ad 4) adQ Q, wOr (kg k) (ad 6) adO O]) (wcs' := [wMa h ad M, wSt (kg k) (ad 0) adN N, wRe (kg k) (ad 5) adE z27.2]) C B [wMa h ad M, wSt (kg k) (ad 0) adN N, wHi (kg k) (ad 4) adQ Q, wRe (kg k) (ad 5) adE z27.2, wOr (kg k) (ad 6) adO O] hc rfl rfl cw_L_14 ok_X6_version rfl (by decide) rfl rfl [2, 4, 0, 1, 3] [2, 3, 0, 4, 1] rfl rfl rfl rfl rfl (Nat.le_of_ble_eq_true rfl) (Nat.zero_le _) (Nat.zero_le _) rfl dL_isSo_217 rfl rfl ?_
                          refine x_iload (pc' := 222) C dL_isSo_220 rfl rfl ?_
                          have join237 : ∀ (E_237 : CS) (y0_237 : Int32), RES = j_L_isSo_237 (fun E_27 x1_27 i10_27 x2_27 x3_27 x4_27 x5_27 x6_27 x7_27 x8_27 x9_27 => l_L_isSo_27 M N Q O n27 E_27 x1_27 i10_27 x2_27 x3_27 x4_27 x5_27 x6_27 x7_27 x8_27 x9_27) M N x1_27 i10_27 x2_27 x3_27 x4_27 x5_27 x6_27 x7_27 x9_27 z21 z23 y0_92 y1_110 y1_123 y1_142 y1_160 y2_175 y1_197 z26 E_237 y0_237 → X k 0 0 (cat [wMa h ad M, wSt (kg k) (ad 0) adN N, wHi (kg k) (ad 4) adQ Q, wRe (kg k) (ad 5) adE E_237, wOr (kg k) (ad 6) adO O]) 237 [some (.ref h), some (.int (x1_27 + 1)), some (.int (x2_27 + y1_110)), some (.int (x3_27 + y1_123)), some (.int (x4_27 + y1_142)), some (.int (x5_27 + (y1_160 + y2_175))), some (.int (x6_27 + z26.1)), some (.int (x7_27 + y1_197)), none, some (.int x9_27), some (.int (nI i10_27)), some (.int z21.1), some (.int z23.1), none, some (.int y0_92)] [.int y0_237] := by
                            intro E_237 y0_237 hRES
                            unfold j_L_isSo_237 at hRES
                            refine x_istore (pc' := 239) (L' := [some (.ref h), some (.int (x1_27 + 1)), some (.int (x2_27 + y1_110)), some (.int (x3_27 + y1_123)), some (.int (x4_27 + y1_142)), some (.int (x5_27 + (y1_160 + y2_175))), some (.int (x6_27 + z26.1)), some (.int (x7_27 + y1_197)), some (.int y0_237), some (.int x9_27), some (.int (nI i10_27)), some (.int z21.1), some (.int z23.1), none, some (.int y0_92)]) C dL_isSo_237 rfl (Nat.le_of_ble_eq_true rfl) rfl ?_
                            refine x_iload (pc' := 241) C dL_isSo_239 rfl rfl ?_
                            have join382 : ∀ (E_382 : CS) (y0_382 : Int32), RES = j_L_isSo_382 (fun E_27 x1_27 i10_27 x2_27 x3_27 x4_27 x5_27 x6_27 x7_27 x8_27 x9_27 => l_L_isSo_27 M N Q O n27 E_27 x1_27 i10_27 x2_27 x3_27 x4_27 x5_27 x6_27 x7_27 x8_27 x9_27) x1_27 i10_27 x2_27 x3_27 x4_27 x5_27 x6_27 x7_27 y1_110 y1_123 y1_142 y1_160 y2_175 y1_197 z26 y0_237 E_382 y0_382 → X k 0 0 (cat [wMa h ad M, wSt (kg k) (ad 0) adN N, wHi (kg k) (ad 4) adQ Q, wRe (kg k) (ad 5) adE E_382, wOr (kg k) (ad 6) adO O]) 382 [some (.ref h), some (.int (x1_27 + 1)), some (.int (x2_27 + y1_110)), some (.int (x3_27 + y1_123)), some (.int (x4_27 + y1_142)), some (.int (x5_27 + (y1_160 + y2_175))), some (.int (x6_27 + z26.1)), some (.int (x7_27 + y1_197)), some (.int y0_237), none, some (.int (nI i10_27)), none, none, none, none] [.int y0_382] := by
                              intro E_382 y0_382 hRES
                              unfold j_L_isSo_382 at hRES
                              refine x_istore (pc' := 384) (L' := [some (.ref h), some (.int (x1_27 + 1)), some (.int (x2_27 + y1_110)), some (.int (x3_27 + y1_123)), some (.int (x4_27 + y1_142)), some (.int (x5_27 + (y1_160 + y2_175))), some (.int (x6_27 + z26.1)), some (.int (x7_27 + y1_197)), some (.int y0_237), some (.int y0_382), some (.int (nI i10_27)), none, none, none, none]) C dL_isSo_382 rfl (Nat.le_of_ble_eq_true rfl) rfl ?_
                              exact join384 E_382 (x1_27 + 1) (x2_27 + y1_110) (x3_27 + y1_123) (x4_27 + y1_142) (x5_27 + (y1_160 + y2_175)) (x6_27 + z26.1) (x7_27 + y1_197) y0_237 y0_382 hRES
                            refine x_if_eq (tgt := 381) (pc' := 244) C dL_isSo_241 (by decide) rfl (fun c28 => ?_) (fun c28 => ?_)
                            · rw [if_pos c28] at hRES
                              refine x_iconst (v := 0) (pc' := 382) C dL_isSo_381 rfl (by decide) ?_
                              refine x_forget (L' := [some (.ref h), some (.int (x1_27 + 1)), some (.int (x2_27 + y1_110)), some (.int (x3_27 + y1_123)), some (.int (x4_27 + y1_142)), some (.int (x5_27 + (y1_160 + y2_175))), some (.int (x6_27 + z26.1)), some (.int (x7_27 + y1_197)), some (.int y0_237), none, some (.int (nI i10_27)), none, none, none, none]) [0, 1, 2, 3, 4, 5, 6, 7, 8, 10] rfl rfl ?_
                              exact join382 E_237 0 hRES
                            · rw [if_neg c28] at hRES
                              refine x_aload_n (pc' := 245) C dL_isSo_244 rfl rfl rfl ?_
                              refine x_iload (pc' := 247) C dL_isSo_245 rfl rfl ?_
                              refine x_iconst (v := 3) (pc' := 248) C dL_isSo_247 rfl (by decide) ?_
                              obtain ⟨z29, ez29⟩ : ∃ z, z = (f_X6_version M N E_237 z21.1 3) := ⟨_, rfl⟩
                              replace hRES := bd hRES z29 ez29
                              have hc := c_X6_version (kl k) (kg k) h ad M adN N adE E_237 z21.1 3
                              rw [← ez29] at hc
                              refine x_catWV (st := []) (st2 := [.int z29.1]) (pc' := 251) (wcs := [wMa h ad M, wSt (kg k) (ad 0) adN N, wRe (kg k) (ad 5) adE E_237]) (wrs := [wHi (kg k) (ad 4) adQ Q, wOr (kg k) (ad 6) adO O]) (wcs' := [wMa h ad M, wSt (kg k) (ad 0) adN N, wRe (kg k) (ad 5) adE z29.2]) C B [wMa h ad M, wSt (kg k) (ad 0) adN N, wHi (kg k) (ad 4) adQ Q, wRe (kg k) (ad 5) adE z29.2, wOr (kg k) (ad 6) adO O] hc rfl rfl cw_L_14 ok_X6_version rfl (by decide) rfl rfl [2, 4, 0, 1, 3] [2, 3, 0, 4, 1] rfl rfl rfl rfl rfl (Nat.le_of_ble_eq_true rfl) (Nat.zero_le _) (Nat.zero_le _) rfl dL_isSo_248 rfl rfl ?_
                              refine x_iload (pc' := 253) C dL_isSo_251 rfl rfl ?_
                              refine x_icmp_ne (tgt := 381) (pc' := 256) C dL_isSo_253 (by decide) rfl (fun c30 => ?_) (fun c30 => ?_)
                              · rw [if_neg c30] at hRES
                                refine x_iconst (v := 0) (pc' := 382) C dL_isSo_381 rfl (by decide) ?_
                                refine x_forget (L' := [some (.ref h), some (.int (x1_27 + 1)), some (.int (x2_27 + y1_110)), some (.int (x3_27 + y1_123)), some (.int (x4_27 + y1_142)), some (.int (x5_27 + (y1_160 + y2_175))), some (.int (x6_27 + z26.1)), some (.int (x7_27 + y1_197)), some (.int y0_237), none, some (.int (nI i10_27)), none, none, none, none]) [0, 1, 2, 3, 4, 5, 6, 7, 8, 10] rfl rfl ?_
                                exact join382 z29.2 0 hRES
                              · rw [if_pos c30] at hRES
                                refine x_iload (pc' := 258) C dL_isSo_256 rfl rfl ?_
                                refine x_iload (pc' := 260) C dL_isSo_258 rfl rfl ?_
                                have join268 : ∀ (y0_268 : Int32), RES = j_L_isSo_268 (fun E_27 x1_27 i10_27 x2_27 x3_27 x4_27 x5_27 x6_27 x7_27 x8_27 x9_27 => l_L_isSo_27 M N Q O n27 E_27 x1_27 i10_27 x2_27 x3_27 x4_27 x5_27 x6_27 x7_27 x8_27 x9_27) M N x1_27 i10_27 x2_27 x3_27 x4_27 x5_27 x6_27 x7_27 z21 z23 y0_92 y1_110 y1_123 y1_142 y1_160 y2_175 y1_197 z26 y0_237 z29 y0_268 → X k 0 0 (cat [wMa h ad M, wSt (kg k) (ad 0) adN N, wHi (kg k) (ad 4) adQ Q, wRe (kg k) (ad 5) adE z29.2, wOr (kg k) (ad 6) adO O]) 268 [some (.ref h), some (.int (x1_27 + 1)), some (.int (x2_27 + y1_110)), some (.int (x3_27 + y1_123)), some (.int (x4_27 + y1_142)), some (.int (x5_27 + (y1_160 + y2_175))), some (.int (x6_27 + z26.1)), some (.int (x7_27 + y1_197)), some (.int y0_237), none, some (.int (nI i10_27)), some (.int z21.1), some (.int z23.1), none, some (.int y0_92)] [.int y0_268] := by
                                  intro y0_268 hRES
                                  unfold j_L_isSo_268 at hRES
                                  refine x_aload_n (pc' := 269) C dL_isSo_268 rfl rfl rfl ?_
                                  refine x_iload (pc' := 271) C dL_isSo_269 rfl rfl ?_
                                  refine x_iconst (v := 4) (pc' := 272) C dL_isSo_271 rfl (by decide) ?_
                                  obtain ⟨z31, ez31⟩ : ∃ z, z = (f_X6_version M N z29.2 (nI i10_27) 4) := ⟨_, rfl⟩
                                  replace hRES := bd hRES z31 ez31
                                  have hc := c_X6_version (kl k) (kg k) h ad M adN N adE z29.2 (nI i10_27) 4
                                  rw [← ez31] at hc
                                  refine x_catWV (st := [.int y0_268]) (st2 := [.int z31.1, .int y0_268]) (pc' := 275) (wcs := [wMa h ad M, wSt (kg k) (ad 0) adN N, wRe (kg k) (ad 5) adE z29.2]) (wrs := [wHi (kg k) (ad 4) adQ Q, wOr (kg k) (ad 6) adO O]) (wcs' := [wMa h ad M, wSt (kg k) (ad 0) adN N, wRe (kg k) (ad 5) adE z31.2]) C B [wMa h ad M, wSt (kg k) (ad 0) adN N, wHi (kg k) (ad 4) adQ Q, wRe (kg k) (ad 5) adE z31.2, wOr (kg k) (ad 6) adO O] hc rfl rfl cw_L_14 ok_X6_version rfl (by decide) rfl rfl [2, 4, 0, 1, 3] [2, 3, 0, 4, 1] rfl rfl rfl rfl rfl (Nat.le_of_ble_eq_true rfl) (Nat.zero_le _) (Nat.zero_le _) rfl dL_isSo_272 rfl rfl ?_
                                  have join283 : ∀ (y1_283 : Int32), RES = j_L_isSo_283 (fun E_27 x1_27 i10_27 x2_27 x3_27 x4_27 x5_27 x6_27 x7_27 x8_27 x9_27 => l_L_isSo_27 M N Q O n27 E_27 x1_27 i10_27 x2_27 x3_27 x4_27 x5_27 x6_27 x7_27 x8_27 x9_27) M N x1_27 i10_27 x2_27 x3_27 x4_27 x5_27 x6_27 x7_27 z21 z23 y0_92 y1_110 y1_123 y1_142 y1_160 y2_175 y1_197 z26 y0_237 y0_268 z31 y1_283 → X k 0 0 (cat [wMa h ad M, wSt (kg k) (ad 0) adN N, wHi (kg k) (ad 4) adQ Q, wRe (kg k) (ad 5) adE z31.2, wOr (kg k) (ad 6) adO O]) 283 [some (.ref h), some (.int (x1_27 + 1)), some (.int (x2_27 + y1_110)), some (.int (x3_27 + y1_123)), some (.int (x4_27 + y1_142)), some (.int (x5_27 + (y1_160 + y2_175))), some (.int (x6_27 + z26.1)), some (.int (x7_27 + y1_197)), some (.int y0_237), none, some (.int (nI i10_27)), some (.int z21.1), some (.int z23.1), none, some (.int y0_92)] [.int y1_283, .int y0_268] := by
                                    intro y1_283 hRES
                                    unfold j_L_isSo_283 at hRES
                                    refine x_icmp_ne (tgt := 381) (pc' := 286) C dL_isSo_283 (by decide) rfl (fun c32 => ?_) (fun c32 => ?_)
                                    · rw [if_neg c32] at hRES
                                      refine x_iconst (v := 0) (pc' := 382) C dL_isSo_381 rfl (by decide) ?_
                                      refine x_forget (L' := [some (.ref h), some (.int (x1_27 + 1)), some (.int (x2_27 + y1_110)), some (.int (x3_27 + y1_123)), some (.int (x4_27 + y1_142)), some (.int (x5_27 + (y1_160 + y2_175))), some (.int (x6_27 + z26.1)), some (.int (x7_27 + y1_197)), some (.int y0_237), none, some (.int (nI i10_27)), none, none, none, none]) [0, 1, 2, 3, 4, 5, 6, 7, 8, 9] rfl rfl ?_
                                      exact join382 z31.2 0 hRES
                                    · rw [if_pos c32] at hRES
                                      refine x_aload_n (pc' := 287) C dL_isSo_286 rfl rfl rfl ?_
                                      refine x_iload (pc' := 289) C dL_isSo_287 rfl rfl ?_
                                      refine x_bipush (v := 9) (pc' := 291) C dL_isSo_289 rfl (by decide) ?_
                                      obtain ⟨z33, ez33⟩ : ∃ z, z = (f_X6_version M N z31.2 (nI i10_27) 9) := ⟨_, rfl⟩
                                      replace hRES := bd hRES z33 ez33
                                      have hc := c_X6_version (kl k) (kg k) h ad M adN N adE z31.2 (nI i10_27) 9
                                      rw [← ez33] at hc
                                      refine x_catWV (st := []) (st2 := [.int z33.1]) (pc' := 294) (wcs := [wMa h ad M, wSt (kg k) (ad 0) adN N, wRe (kg k) (ad 5) adE z31.2]) (wrs := [wHi (kg k) (ad 4) adQ Q, wOr (kg k) (ad 6) adO O]) (wcs' := [wMa h ad M, wSt (kg k) (ad 0) adN N, wRe (kg k) (ad 5) adE z33.2]) C B [wMa h ad M, wSt (kg k) (ad 0) adN N, wHi (kg k) (ad 4) adQ Q, wRe (kg k) (ad 5) adE z33.2, wOr (kg k) (ad 6) adO O] hc rfl rfl cw_L_14 ok_X6_version rfl (by decide) rfl rfl [2, 4, 0, 1, 3] [2, 3, 0, 4, 1] rfl rfl rfl rfl rfl (Nat.le_of_ble_eq_true rfl) (Nat.zero_le _) (Nat.zero_le _) rfl dL_isSo_291 rfl rfl ?_
                                      refine x_iconst (v := 1) (pc' := 295) C dL_isSo_294 rfl (by decide) ?_
                                      refine x_aload_n (pc' := 296) C dL_isSo_295 rfl rfl rfl ?_
                                      refine x_iload (pc' := 298) C dL_isSo_296 rfl rfl ?_
                                      refine x_iconst (v := 5) (pc' := 299) C dL_isSo_298 rfl (by decide) ?_
                                      obtain ⟨z34, ez34⟩ : ∃ z, z = (f_X6_version M N z33.2 (nI i10_27) 5) := ⟨_, rfl⟩
                                      replace hRES := bd hRES z34 ez34
                                      have hc := c_X6_version (kl k) (kg k) h ad M adN N adE z33.2 (nI i10_27) 5
                                      rw [← ez34] at hc
                                      refine x_catWV (st := [.int 1, .int z33.1]) (st2 := [.int z34.1, .int 1, .int z33.1]) (pc' := 302) (wcs := [wMa h ad M, wSt (kg k) (ad 0) adN N, wRe (kg k) (ad 5) adE z33.2]) (wrs := [wHi (kg k) (ad 4) adQ Q, wOr (kg k) (ad 6) adO O]) (wcs' := [wMa h ad M, wSt (kg k) (ad 0) adN N, wRe (kg k) (ad 5) adE z34.2]) C B [wMa h ad M, wSt (kg k) (ad 0) adN N, wHi (kg k) (ad 4) adQ Q, wRe (kg k) (ad 5) adE z34.2, wOr (kg k) (ad 6) adO O] hc rfl rfl cw_L_14 ok_X6_version rfl (by decide) rfl rfl [2, 4, 0, 1, 3] [2, 3, 0, 4, 1] rfl rfl rfl rfl rfl (Nat.le_of_ble_eq_true rfl) (Nat.zero_le _) (Nat.zero_le _) rfl dL_isSo_299 rfl rfl ?_
                                      refine x_iadd (pc' := 303) (v := ((1 : Int32) + z34.1)) C dL_isSo_302 rfl rfl ?_
                                      refine x_icmp_ne (tgt := 381) (pc' := 306) C dL_isSo_303 (by decide) rfl (fun c35 => ?_) (fun c35 => ?_)
                                      · rw [if_neg c35] at hRES
                                        refine x_iconst (v := 0) (pc' := 382) C dL_isSo_381 rfl (by decide) ?_
                                        refine x_forget (L' := [some (.ref h), some (.int (x1_27 + 1)), some (.int (x2_27 + y1_110)), some (.int (x3_27 + y1_123)), some (.int (x4_27 + y1_142)), some (.int (x5_27 + (y1_160 + y2_175))), some (.int (x6_27 + z26.1)), some (.int (x7_27 + y1_197)), some (.int y0_237), none, some (.int (nI i10_27)), none, none, none, none]) [0, 1, 2, 3, 4, 5, 6, 7, 8, 9] rfl rfl ?_
                                        exact join382 z34.2 0 hRES
                                      · rw [if_pos c35] at hRES
                                        refine x_aload_n (pc' := 307) C dL_isSo_306 rfl rfl rfl ?_
                                        refine x_iload (pc' := 309) C dL_isSo_307 rfl rfl ?_
                                        refine x_iconst (v := 5) (pc' := 310) C dL_isSo_309 rfl (by decide) ?_
                                        obtain ⟨z36, ez36⟩ : ∃ z, z = (f_X6_version M N z34.2 (nI i10_27) 5) := ⟨_, rfl⟩
                                        replace hRES := bd hRES z36 ez36
                                        have hc := c_X6_version (kl k) (kg k) h ad M adN N adE z34.2 (nI i10_27) 5
                                        rw [← ez36] at hc
                                        refine x_catWV (st := []) (st2 := [.int z36.1]) (pc' := 313) (wcs := [wMa h ad M, wSt (kg k) (ad 0) adN N, wRe (kg k) (ad 5) adE z34.2]) (wrs := [wHi (kg k) (ad 4) adQ Q, wOr (kg k) (ad 6) adO O]) (wcs' := [wMa h ad M, wSt (kg k) (ad 0) adN N, wRe (kg k) (ad 5) adE z36.2]) C B [wMa h ad M, wSt (kg k) (ad 0) adN N, wHi (kg k) (ad 4) adQ Q, wRe (kg k) (ad 5) adE z36.2, wOr (kg k) (ad 6) adO O] hc rfl rfl cw_L_14 ok_X6_version rfl (by decide) rfl rfl [2, 4, 0, 1, 3] [2, 3, 0, 4, 1] rfl rfl rfl rfl rfl (Nat.le_of_ble_eq_true rfl) (Nat.zero_le _) (Nat.zero_le _) rfl dL_isSo_310 rfl rfl ?_
                                        refine x_aload_n (pc' := 314) C dL_isSo_313 rfl rfl rfl ?_
                                        refine x_iload (pc' := 316) C dL_isSo_314 rfl rfl ?_
                                        refine x_iload (pc' := 318) C dL_isSo_316 rfl rfl ?_
                                        refine x_catRV (st := [.int z36.1]) (st2 := [.int (f_X6_unlike M N (nI i10_27) z21.1), .int z36.1]) (pc' := 321) (wcs := [wMa h ad M, wSt (kg k) (ad 0) adN N]) C (c_X6_unlike (kl k) (kg k) h ad M adN N (nI i10_27) z21.1) rfl cw_L_52 ok_X6_unlike rfl (by decide) rfl rfl [0, 1] rfl rfl rfl (Nat.le_of_ble_eq_true rfl) (Nat.zero_le _) (Nat.zero_le _) rfl dL_isSo_318 rfl rfl ?_
                                        refine x_icmp_lt (tgt := 381) (pc' := 324) C dL_isSo_321 (by decide) rfl (fun c37 => ?_) (fun c37 => ?_)
                                        · rw [if_pos c37] at hRES
                                          refine x_iconst (v := 0) (pc' := 382) C dL_isSo_381 rfl (by decide) ?_
                                          refine x_forget (L' := [some (.ref h), some (.int (x1_27 + 1)), some (.int (x2_27 + y1_110)), some (.int (x3_27 + y1_123)), some (.int (x4_27 + y1_142)), some (.int (x5_27 + (y1_160 + y2_175))), some (.int (x6_27 + z26.1)), some (.int (x7_27 + y1_197)), some (.int y0_237), none, some (.int (nI i10_27)), none, none, none, none]) [0, 1, 2, 3, 4, 5, 6, 7, 8, 9] rfl rfl ?_
                                          exact join382 z36.2 0 hRES
                                        · rw [if_neg c37] at hRES
                                          refine x_iload (pc' := 326) C dL_isSo_324 rfl rfl ?_
                                          refine x_if_eq (tgt := 360) (pc' := 329) C dL_isSo_326 (by decide) rfl (fun c38 => ?_) (fun c38 => ?_)
                                          · rw [if_pos c38] at hRES
                                            refine x_iload (pc' := 362) C dL_isSo_360 rfl rfl ?_
                                            refine x_ifN_gt (tgt := 377) (pc' := 365) C i10_27 dL_isSo_362 (by decide) rfl (by omega) (fun c39 => ?_) (fun c39 => ?_)
                                            · rw [if_pos c39] at hRES
                                              refine x_iconst (v := 1) (pc' := 378) C dL_isSo_377 rfl (by decide) ?_
                                              refine x_goto (tgt := 382) C dL_isSo_378 (by decide) ?_
                                              refine x_forget (L' := [some (.ref h), some (.int (x1_27 + 1)), some (.int (x2_27 + y1_110)), some (.int (x3_27 + y1_123)), some (.int (x4_27 + y1_142)), some (.int (x5_27 + (y1_160 + y2_175))), some (.int (x6_27 + z26.1)), some (.int (x7_27 + y1_197)), some (.int y0_237), none, some (.int (nI i10_27)), none, none, none, none]) [0, 1, 2, 3, 4, 5, 6, 7, 8, 9] rfl rfl ?_
                                              exact join382 z36.2 1 hRES
                                            · rw [if_neg c39] at hRES
                                              refine x_iload (pc' := 367) C dL_isSo_365 rfl rfl ?_
                                              refine x_bipush (v := (-5)) (pc' := 369) C dL_isSo_367 rfl (by decide) ?_
                                              refine x_icmp_ne (tgt := 381) (pc' := 372) C dL_isSo_369 (by decide) rfl (fun c40 => ?_) (fun c40 => ?_)
                                              · rw [if_neg c40] at hRES
                                                refine x_iconst (v := 0) (pc' := 382) C dL_isSo_381 rfl (by decide) ?_
                                                refine x_forget (L' := [some (.ref h), some (.int (x1_27 + 1)), some (.int (x2_27 + y1_110)), some (.int (x3_27 + y1_123)), some (.int (x4_27 + y1_142)), some (.int (x5_27 + (y1_160 + y2_175))), some (.int (x6_27 + z26.1)), some (.int (x7_27 + y1_197)), some (.int y0_237), none, some (.int (nI i10_27)), none, none, none, none]) [0, 1, 2, 3, 4, 5, 6, 7, 8, 9] rfl rfl ?_
                                                exact join382 z36.2 0 hRES
                                              · rw [if_pos c40] at hRES
                                                refine x_iload (pc' := 374) C dL_isSo_372 rfl rfl ?_
                                                refine x_if_ne (tgt := 381) (pc' := 377) C dL_isSo_374 (by decide) rfl (fun c41 => ?_) (fun c41 => ?_)
                                                · exact absurd c38 c41
                                                · refine x_iconst (v := 1) (pc' := 378) C dL_isSo_377 rfl (by decide) ?_
                                                  refine x_goto (tgt := 382) C dL_isSo_378 (by decide) ?_
                                                  refine x_forget (L' := [some (.ref h), some (.int (x1_27 + 1)), some (.int (x2_27 + y1_110)), some (.int (x3_27 + y1_123)), some (.int (x4_27 + y1_142)), some (.int (x5_27 + (y1_160 + y2_175))), some (.int (x6_27 + z26.1)), some (.int (x7_27 + y1_197)), some (.int y0_237), none, some (.int (nI i10_27)), none, none, none, none]) [0, 1, 2, 3, 4, 5, 6, 7, 8, 9] rfl rfl ?_
                                                  exact join382 z36.2 1 hRES
                                          · rw [if_neg c38] at hRES
                                            refine x_aload_n (pc' := 330) C dL_isSo_329 rfl rfl rfl ?_
                                            refine x_iload (pc' := 332) C dL_isSo_330 rfl rfl ?_
                                            refine x_iconst (v := 3) (pc' := 333) C dL_isSo_332 rfl (by decide) ?_
                                            obtain ⟨z42, ez42⟩ : ∃ z, z = (f_X6_version M N z36.2 z23.1 3) := ⟨_, rfl⟩
                                            replace hRES := bd hRES z42 ez42
                                            have hc := c_X6_version (kl k) (kg k) h ad M adN N adE z36.2 z23.1 3
                                            rw [← ez42] at hc
                                            refine x_catWV (st := []) (st2 := [.int z42.1]) (pc' := 336) (wcs := [wMa h ad M, wSt (kg k) (ad 0) adN N, wRe (kg k) (ad 5) adE z36.2]) (wrs := [wHi (kg k) (ad 4) adQ Q, wOr (kg k) (ad 6) adO O]) (wcs' := [wMa h ad M, wSt (kg k) (ad 0) adN N, wRe (kg k) (ad 5) adE z42.2]) C B [wMa h ad M, wSt (kg k) (ad 0) adN N, wHi (kg k) (ad 4) adQ Q, wRe (kg k) (ad 5) adE z42.2, wOr (kg k) (ad 6) adO O] hc rfl rfl cw_L_14 ok_X6_version rfl (by decide) rfl rfl [2, 4, 0, 1, 3] [2, 3, 0, 4, 1] rfl rfl rfl rfl rfl (Nat.le_of_ble_eq_true rfl) (Nat.zero_le _) (Nat.zero_le _) rfl dL_isSo_333 rfl rfl ?_
                                            refine x_iload (pc' := 338) C dL_isSo_336 rfl rfl ?_
                                            refine x_icmp_ne (tgt := 381) (pc' := 341) C dL_isSo_338 (by decide) rfl (fun c43 => ?_) (fun c43 => ?_)
                                            · rw [if_neg c43] at hRES
                                              refine x_iconst (v := 0) (pc' := 382) C dL_isSo_381 rfl (by decide) ?_
                                              refine x_forget (L' := [some (.ref h), some (.int (x1_27 + 1)), some (.int (x2_27 + y1_110)), some (.int (x3_27 + y1_123)), some (.int (x4_27 + y1_142)), some (.int (x5_27 + (y1_160 + y2_175))), some (.int (x6_27 + z26.1)), some (.int (x7_27 + y1_197)), some (.int y0_237), none, some (.int (nI i10_27)), none, none, none, none]) [0, 1, 2, 3, 4, 5, 6, 7, 8, 9] rfl rfl ?_
                                              exact join382 z42.2 0 hRES
                                            · rw [if_pos c43] at hRES
                                              refine x_aload_n (pc' := 342) C dL_isSo_341 rfl rfl rfl ?_
                                              refine x_iload (pc' := 344) C dL_isSo_342 rfl rfl ?_
                                              refine x_bipush (v := 8) (pc' := 346) C dL_isSo_344 rfl (by decide) ?_
                                              obtain ⟨z44, ez44⟩ : ∃ z, z = (f_X6_version M N z42.2 z23.1 8) := ⟨_, rfl⟩
                                              replace hRES := bd hRES z44 ez44
                                              have hc := c_X6_version (kl k) (kg k) h ad M adN N adE z42.2 z23.1 8
                                              rw [← ez44] at hc
                                              refine x_catWV (st := []) (st2 := [.int z44.1]) (pc' := 349) (wcs := [wMa h ad M, wSt (kg k) (ad 0) adN N, wRe (kg k) (ad 5) adE z42.2]) (wrs := [wHi (kg k) (ad 4) adQ Q, wOr (kg k) (ad 6) adO O]) (wcs' := [wMa h ad M, wSt (kg k) (ad 0) adN N, wRe (kg k) (ad 5) adE z44.2]) C B [wMa h ad M, wSt (kg k) (ad 0) adN N, wHi (kg k) (ad 4) adQ Q, wRe (kg k) (ad 5) adE z44.2, wOr (kg k) (ad 6) adO O] hc rfl rfl cw_L_14 ok_X6_version rfl (by decide) rfl rfl [2, 4, 0, 1, 3] [2, 3, 0, 4, 1] rfl rfl rfl rfl rfl (Nat.le_of_ble_eq_true rfl) (Nat.zero_le _) (Nat.zero_le _) rfl dL_isSo_346 rfl rfl ?_
                                              refine x_aload_n (pc' := 350) C dL_isSo_349 rfl rfl rfl ?_
                                              refine x_iload (pc' := 352) C dL_isSo_350 rfl rfl ?_
                                              refine x_bipush (v := 8) (pc' := 354) C dL_isSo_352 rfl (by decide) ?_
                                              obtain ⟨z45, ez45⟩ : ∃ z, z = (f_X6_version M N z44.2 (nI i10_27) 8) := ⟨_, rfl⟩
                                              replace hRES := bd hRES z45 ez45
                                              have hc := c_X6_version (kl k) (kg k) h ad M adN N adE z44.2 (nI i10_27) 8
                                              rw [← ez45] at hc
                                              refine x_catWV (st := [.int z44.1]) (st2 := [.int z45.1, .int z44.1]) (pc' := 357) (wcs := [wMa h ad M, wSt (kg k) (ad 0) adN N, wRe (kg k) (ad 5) adE z44.2]) (wrs := [wHi (kg k) (ad 4) adQ Q, wOr (kg k) (ad 6) adO O]) (wcs' := [wMa h ad M, wSt (kg k) (ad 0) adN N, wRe (kg k) (ad 5) adE z45.2]) C B [wMa h ad M, wSt (kg k) (ad 0) adN N, wHi (kg k) (ad 4) adQ Q, wRe (kg k) (ad 5) adE z45.2, wOr (kg k) (ad 6) adO O] hc rfl rfl cw_L_14 ok_X6_version rfl (by decide) rfl rfl [2, 4, 0, 1, 3] [2, 3, 0, 4, 1] rfl rfl rfl rfl rfl (Nat.le_of_ble_eq_true rfl) (Nat.zero_le _) (Nat.zero_le _) rfl dL_isSo_354 rfl rfl ?_
                                              refine x_icmp_ne (tgt := 381) (pc' := 360) C dL_isSo_357 (by decide) rfl (fun c46 => ?_) (fun c46 => ?_)
                                              · rw [if_neg c46] at hRES
                                                refine x_iconst (v := 0) (pc' := 382) C dL_isSo_381 rfl (by decide) ?_
                                                refine x_forget (L' := [some (.ref h), some (.int (x1_27 + 1)), some (.int (x2_27 + y1_110)), some (.int (x3_27 + y1_123)), some (.int (x4_27 + y1_142)), some (.int (x5_27 + (y1_160 + y2_175))), some (.int (x6_27 + z26.1)), some (.int (x7_27 + y1_197)), some (.int y0_237), none, some (.int (nI i10_27)), none, none, none, none]) [0, 1, 2, 3, 4, 5, 6, 7, 8, 9] rfl rfl ?_
                                                exact join382 z45.2 0 hRES
                                              · rw [if_pos c46] at hRES
                                                refine x_iload (pc' := 362) C dL_isSo_360 rfl rfl ?_
                                                refine x_ifN_gt (tgt := 377) (pc' := 365) C i10_27 dL_isSo_362 (by decide) rfl (by omega) (fun c47 => ?_) (fun c47 => ?_)
                                                · rw [if_pos c47] at hRES
                                                  refine x_iconst (v := 1) (pc' := 378) C dL_isSo_377 rfl (by decide) ?_
                                                  refine x_goto (tgt := 382) C dL_isSo_378 (by decide) ?_
                                                  refine x_forget (L' := [some (.ref h), some (.int (x1_27 + 1)), some (.int (x2_27 + y1_110)), some (.int (x3_27 + y1_123)), some (.int (x4_27 + y1_142)), some (.int (x5_27 + (y1_160 + y2_175))), some (.int (x6_27 + z26.1)), some (.int (x7_27 + y1_197)), some (.int y0_237), none, some (.int (nI i10_27)), none, none, none, none]) [0, 1, 2, 3, 4, 5, 6, 7, 8, 9] rfl rfl ?_
                                                  exact join382 z45.2 1 hRES
                                                · rw [if_neg c47] at hRES
                                                  refine x_iload (pc' := 367) C dL_isSo_365 rfl rfl ?_
                                                  refine x_bipush (v := (-5)) (pc' := 369) C dL_isSo_367 rfl (by decide) ?_
                                                  refine x_icmp_ne (tgt := 381) (pc' := 372) C dL_isSo_369 (by decide) rfl (fun c48 => ?_) (fun c48 => ?_)
                                                  · rw [if_neg c48] at hRES
                                                    refine x_iconst (v := 0) (pc' := 382) C dL_isSo_381 rfl (by decide) ?_
                                                    refine x_forget (L' := [some (.ref h), some (.int (x1_27 + 1)), some (.int (x2_27 + y1_110)), some (.int (x3_27 + y1_123)), some (.int (x4_27 + y1_142)), some (.int (x5_27 + (y1_160 + y2_175))), some (.int (x6_27 + z26.1)), some (.int (x7_27 + y1_197)), some (.int y0_237), none, some (.int (nI i10_27)), none, none, none, none]) [0, 1, 2, 3, 4, 5, 6, 7, 8, 9] rfl rfl ?_
                                                    exact join382 z45.2 0 hRES
                                                  · rw [if_pos c48] at hRES
                                                    refine x_iload (pc' := 374) C dL_isSo_372 rfl rfl ?_
                                                    refine x_if_ne (tgt := 381) (pc' := 377) C dL_isSo_374 (by decide) rfl (fun c49 => ?_) (fun c49 => ?_)
                                                    · refine x_iconst (v := 0) (pc' := 382) C dL_isSo_381 rfl (by decide) ?_
                                                      refine x_forget (L' := [some (.ref h), some (.int (x1_27 + 1)), some (.int (x2_27 + y1_110)), some (.int (x3_27 + y1_123)), some (.int (x4_27 + y1_142)), some (.int (x5_27 + (y1_160 + y2_175))), some (.int (x6_27 + z26.1)), some (.int (x7_27 + y1_197)), some (.int y0_237), none, some (.int (nI i10_27)), none, none, none, none]) [0, 1, 2, 3, 4, 5, 6, 7, 8, 9] rfl rfl ?_
                                                      exact join382 z45.2 0 hRES
                                                    · exact absurd c49 c38
                                  refine x_if_ne (tgt := 282) (pc' := 278) C dL_isSo_275 (by decide) rfl (fun c50 => ?_) (fun c50 => ?_)
                                  · rw [if_neg c50] at hRES
                                    refine x_iconst (v := 0) (pc' := 283) C dL_isSo_282 rfl (by decide) ?_
                                    exact join283 0 hRES
                                  · rw [if_pos c50] at hRES
                                    refine x_iconst (v := 1) (pc' := 279) C dL_isSo_278 rfl (by decide) ?_
                                    refine x_goto (tgt := 283) C dL_isSo_279 (by decide) ?_
                                    exact join283 1 hRES
                                refine x_icmp_ne (tgt := 267) (pc' := 263) C dL_isSo_260 (by decide) rfl (fun c51 => ?_) (fun c51 => ?_)
                                · rw [if_neg c51] at hRES
                                  refine x_iconst (v := 0) (pc' := 268) C dL_isSo_267 rfl (by decide) ?_
                                  refine x_forget (L' := [some (.ref h), some (.int (x1_27 + 1)), some (.int (x2_27 + y1_110)), some (.int (x3_27 + y1_123)), some (.int (x4_27 + y1_142)), some (.int (x5_27 + (y1_160 + y2_175))), some (.int (x6_27 + z26.1)), some (.int (x7_27 + y1_197)), some (.int y0_237), none, some (.int (nI i10_27)), some (.int z21.1), some (.int z23.1), none, some (.int y0_92)]) [0, 1, 2, 3, 4, 5, 6, 7, 8, 10, 11, 12, 13] rfl rfl ?_
                                  exact join268 0 hRES
                                · rw [if_pos c51] at hRES
                                  refine x_iconst (v := 1) (pc' := 264) C dL_isSo_263 rfl (by decide) ?_
                                  refine x_goto (tgt := 268) C dL_isSo_264 (by decide) ?_
                                  refine x_forget (L' := [some (.ref h), some (.int (x1_27 + 1)), some (.int (x2_27 + y1_110)), some (.int (x3_27 + y1_123)), some (.int (x4_27 + y1_142)), some (.int (x5_27 + (y1_160 + y2_175))), some (.int (x6_27 + z26.1)), some (.int (x7_27 + y1_197)), some (.int y0_237), none, some (.int (nI i10_27)), some (.int z21.1), some (.int z23.1), none, some (.int y0_92)]) [0, 1, 2, 3, 4, 5, 6, 7, 8, 10, 11, 12, 13] rfl rfl ?_
                                  exact join268 1 hRES
                          refine x_icmp_le (tgt := 235) (pc' := 225) C dL_isSo_222 (by decide) rfl (fun c52 => ?_) (fun c52 => ?_)
                          · rw [if_neg c52] at hRES
                            refine x_iload (pc' := 237) C dL_isSo_235 rfl rfl ?_
                            refine x_forget (L' := [some (.ref h), some (.int (x1_27 + 1)), some (.int (x2_27 + y1_110)), some (.int (x3_27 + y1_123)), some (.int (x4_27 + y1_142)), some (.int (x5_27 + (y1_160 + y2_175))), some (.int (x6_27 + z26.1)), some (.int (x7_27 + y1_197)), none, some (.int x9_27), some (.int (nI i10_27)), some (.int z21.1), some (.int z23.1), none, some (.int y0_92)]) [0, 1, 2, 3, 4, 5, 6, 7, 9, 10, 11, 12, 13] rfl rfl ?_
                            exact join237 z27.2 x8_27 hRES
                          · rw [if_pos c52] at hRES
                            refine x_aload_n (pc' := 226) C dL_isSo_225 rfl rfl rfl ?_
                            refine x_iload (pc' := 228) C dL_isSo_226 rfl rfl ?_
                            refine x_iconst (v := 4) (pc' := 229) C dL_isSo_228 rfl (by decide) ?_
                            obtain ⟨z53, ez53⟩ : ∃ z, z = (f_X6_version M N z27.2 (nI i10_27) 4) := ⟨_, rfl⟩
                            replace hRES := bd hRES z53 ez53
                            have hc := c_X6_version (kl k) (kg k) h ad M adN N adE z27.2 (nI i10_27) 4
                            rw [← ez53] at hc
                            refine x_catWV (st := []) (st2 := [.int z53.1]) (pc' := 232) (wcs := [wMa h ad M, wSt (kg k) (ad 0) adN N, wRe (kg k) (ad 5) adE z27.2]) (wrs := [wHi (kg k) (ad 4) adQ Q, wOr (kg k) (ad 6) adO O]) (wcs' := [wMa h ad M, wSt (kg k) (ad 0) adN N, wRe (kg k) (ad 5) adE z53.2]) C B [wMa h ad M, wSt (kg k) (ad 0) adN N, wHi (kg k) (ad 4) adQ Q, wRe (kg k) (ad 5) adE z53.2, wOr (kg k) (ad 6) adO O] hc rfl rfl cw_L_14 ok_X6_version rfl (by decide) rfl rfl [2, 4, 0, 1, 3] [2, 3, 0, 4, 1] rfl rfl rfl rfl rfl (Nat.le_of_ble_eq_true rfl) (Nat.zero_le _) (Nat.zero_le _) rfl dL_isSo_229 rfl rfl ?_
                            refine x_goto (tgt := 237) C dL_isSo_232 (by decide) ?_
                            refine x_forget (L' := [some (.ref h), some (.int (x1_27 + 1)), some (.int (x2_27 + y1_110)), some (.int (x3_27 + y1_123)), some (.int (x4_27 + y1_142)), some (.int (x5_27 + (y1_160 + y2_175))), some (.int (x6_27 + z26.1)), some (.int (x7_27 + y1_197)), none, some (.int x9_27), some (.int (nI i10_27)), some (.int z21.1), some (.int z23.1), none, some (.int y0_92)]) [0, 1, 2, 3, 4, 5, 6, 7, 9, 10, 11, 12, 13] rfl rfl ?_
                            exact join237 z53.2 z53.1 hRES
                        refine x_if_ne (tgt := 196) (pc' := 192) C dL_isSo_189 (by decide) rfl (fun c54 => ?_) (fun c54 => ?_)
                        · rw [if_neg c54] at hRES
                          refine x_iconst (v := 0) (pc' := 197) C dL_isSo_196 rfl (by decide) ?_
                          refine x_forget (L' := [some (.ref h), some (.int (x1_27 + 1)), some (.int (x2_27 + y1_110)), some (.int (x3_27 + y1_123)), some (.int (x4_27 + y1_142)), some (.int (x5_27 + (y1_160 + y2_175))), some (.int x6_27), none, some (.int x8_27), some (.int x9_27), some (.int (nI i10_27)), some (.int z21.1), some (.int z23.1), none, some (.int y0_92)]) [0, 1, 2, 3, 4, 5, 6, 8, 9, 10, 11, 12, 13] rfl rfl ?_
                          exact join197 0 hRES
                        · rw [if_pos c54] at hRES
                          refine x_iconst (v := 1) (pc' := 193) C dL_isSo_192 rfl (by decide) ?_
                          refine x_goto (tgt := 197) C dL_isSo_193 (by decide) ?_
                          refine x_forget (L' := [some (.ref h), some (.int (x1_27 + 1)), some (.int (x2_27 + y1_110)), some (.int (x3_27 + y1_123)), some (.int (x4_27 + y1_142)), some (.int (x5_27 + (y1_160 + y2_175))), some (.int x6_27), none, some (.int x8_27), some (.int x9_27), some (.int (nI i10_27)), some (.int z21.1), some (.int z23.1), none, some (.int y0_92)]) [0, 1, 2, 3, 4, 5, 6, 8, 9, 10, 11, 12, 13] rfl rfl ?_
                          exact join197 1 hRES
                      refine x_if_eq (tgt := 174) (pc' := 165) C dL_isSo_162 (by decide) rfl (fun c55 => ?_) (fun c55 => ?_)
                      · rw [if_pos c55] at hRES
                        refine x_iconst (v := 0) (pc' := 175) C dL_isSo_174 rfl (by decide) ?_
                        refine x_forget (L' := [some (.ref h), some (.int (x1_27 + 1)), some (.int (x2_27 + y1_110)), some (.int (x3_27 + y1_123)), some (.int (x4_27 + y1_142)), none, some (.int x6_27), some (.int x7_27), some (.int x8_27), some (.int x9_27), some (.int (nI i10_27)), some (.int z21.1), some (.int z23.1), none, some (.int y0_92)]) [0, 1, 2, 3, 4, 5, 6, 7, 8, 9, 10, 11, 13] rfl rfl ?_
                        exact join175 0 hRES
                      · rw [if_neg c55] at hRES
                        refine x_iconst (v := 1) (pc' := 166) C dL_isSo_165 rfl (by decide) ?_
                        refine x_iconst (v := 2) (pc' := 167) C dL_isSo_166 rfl (by decide) ?_
                        refine x_iload (pc' := 169) C dL_isSo_167 rfl rfl ?_
                        refine x_imul (pc' := 170) (v := ((2 : Int32) * y0_74)) C dL_isSo_169 rfl rfl ?_
                        refine x_iadd (pc' := 171) (v := ((1 : Int32) + ((2 : Int32) * y0_74))) C dL_isSo_170 rfl rfl ?_
                        refine x_goto (tgt := 175) C dL_isSo_171 (by decide) ?_
                        refine x_forget (L' := [some (.ref h), some (.int (x1_27 + 1)), some (.int (x2_27 + y1_110)), some (.int (x3_27 + y1_123)), some (.int (x4_27 + y1_142)), none, some (.int x6_27), some (.int x7_27), some (.int x8_27), some (.int x9_27), some (.int (nI i10_27)), some (.int z21.1), some (.int z23.1), none, some (.int y0_92)]) [0, 1, 2, 3, 4, 5, 6, 7, 8, 9, 10, 11, 13] rfl rfl ?_
                        exact join175 ((1 : Int32) + ((2 : Int32) * y0_74)) hRES
                    refine x_icmp_ne (tgt := 159) (pc' := 154) C dL_isSo_151 (by decide) rfl (fun c56 => ?_) (fun c56 => ?_)
                    · rw [if_neg c56] at hRES
                      refine x_iconst (v := 0) (pc' := 160) C dL_isSo_159 rfl (by decide) ?_
                      refine x_forget (L' := [some (.ref h), some (.int (x1_27 + 1)), some (.int (x2_27 + y1_110)), some (.int (x3_27 + y1_123)), some (.int (x4_27 + y1_142)), none, some (.int x6_27), some (.int x7_27), some (.int x8_27), some (.int x9_27), some (.int (nI i10_27)), some (.int z21.1), some (.int z23.1), some (.int y0_74), some (.int y0_92)]) [0, 1, 2, 3, 4, 6, 7, 8, 9, 10, 11, 12, 13, 14] rfl rfl ?_
                      exact join160 0 hRES
                    · rw [if_pos c56] at hRES
                      refine x_bipush (v := 8) (pc' := 156) C dL_isSo_154 rfl (by decide) ?_
                      refine x_goto (tgt := 160) C dL_isSo_156 (by decide) ?_
                      refine x_forget (L' := [some (.ref h), some (.int (x1_27 + 1)), some (.int (x2_27 + y1_110)), some (.int (x3_27 + y1_123)), some (.int (x4_27 + y1_142)), none, some (.int x6_27), some (.int x7_27), some (.int x8_27), some (.int x9_27), some (.int (nI i10_27)), some (.int z21.1), some (.int z23.1), some (.int y0_74), some (.int y0_92)]) [0, 1, 2, 3, 4, 6, 7, 8, 9, 10, 11, 12, 13, 14] rfl rfl ?_
                      exact join160 8 hRES
                  refine x_ifN_le (tgt := 141) (pc' := 132) C i10_27 dL_isSo_129 (by decide) rfl (by omega) (fun c57 => ?_) (fun c57 => ?_)
                  · rw [if_neg c57] at hRES
                    refine x_iconst (v := 0) (pc' := 142) C dL_isSo_141 rfl (by decide) ?_
                    refine x_forget (L' := [some (.ref h), some (.int (x1_27 + 1)), some (.int (x2_27 + y1_110)), some (.int (x3_27 + y1_123)), none, some (.int x5_27), some (.int x6_27), some (.int x7_27), some (.int x8_27), some (.int x9_27), some (.int (nI i10_27)), some (.int z21.1), some (.int z23.1), some (.int y0_74), some (.int y0_92)]) [0, 1, 2, 3, 5, 6, 7, 8, 9, 10, 11, 12, 13, 14] rfl rfl ?_
                    exact join142 0 hRES
                  · rw [if_pos c57] at hRES
                    refine x_iload (pc' := 134) C dL_isSo_132 rfl rfl ?_
                    refine x_if_ne (tgt := 141) (pc' := 137) C dL_isSo_134 (by decide) rfl (fun c58 => ?_) (fun c58 => ?_)
                    · rw [if_neg c58] at hRES
                      refine x_iconst (v := 0) (pc' := 142) C dL_isSo_141 rfl (by decide) ?_
                      refine x_forget (L' := [some (.ref h), some (.int (x1_27 + 1)), some (.int (x2_27 + y1_110)), some (.int (x3_27 + y1_123)), none, some (.int x5_27), some (.int x6_27), some (.int x7_27), some (.int x8_27), some (.int x9_27), some (.int (nI i10_27)), some (.int z21.1), some (.int z23.1), some (.int y0_74), some (.int y0_92)]) [0, 1, 2, 3, 5, 6, 7, 8, 9, 10, 11, 12, 13, 14] rfl rfl ?_
                      exact join142 0 hRES
                    · rw [if_pos c58] at hRES
                      refine x_iconst (v := 1) (pc' := 138) C dL_isSo_137 rfl (by decide) ?_
                      refine x_goto (tgt := 142) C dL_isSo_138 (by decide) ?_
                      refine x_forget (L' := [some (.ref h), some (.int (x1_27 + 1)), some (.int (x2_27 + y1_110)), some (.int (x3_27 + y1_123)), none, some (.int x5_27), some (.int x6_27), some (.int x7_27), some (.int x8_27), some (.int x9_27), some (.int (nI i10_27)), some (.int z21.1), some (.int z23.1), some (.int y0_74), some (.int y0_92)]) [0, 1, 2, 3, 5, 6, 7, 8, 9, 10, 11, 12, 13, 14] rfl rfl ?_
                      exact join142 1 hRES
                refine x_if_eq (tgt := 122) (pc' := 118) C dL_isSo_115 (by decide) rfl (fun c59 => ?_) (fun c59 => ?_)
                · rw [if_pos c59] at hRES
                  refine x_iconst (v := 0) (pc' := 123) C dL_isSo_122 rfl (by decide) ?_
                  refine x_forget (L' := [some (.ref h), some (.int (x1_27 + 1)), some (.int (x2_27 + y1_110)), none, some (.int x4_27), some (.int x5_27), some (.int x6_27), some (.int x7_27), some (.int x8_27), some (.int x9_27), some (.int (nI i10_27)), some (.int z21.1), some (.int z23.1), some (.int y0_74), some (.int y0_92)]) [0, 1, 2, 4, 5, 6, 7, 8, 9, 10, 11, 12, 13, 14] rfl rfl ?_
                  exact join123 0 hRES
                · rw [if_neg c59] at hRES
                  refine x_iconst (v := 1) (pc' := 119) C dL_isSo_118 rfl (by decide) ?_
                  refine x_goto (tgt := 123) C dL_isSo_119 (by decide) ?_
                  refine x_forget (L' := [some (.ref h), some (.int (x1_27 + 1)), some (.int (x2_27 + y1_110)), none, some (.int x4_27), some (.int x5_27), some (.int x6_27), some (.int x7_27), some (.int x8_27), some (.int x9_27), some (.int (nI i10_27)), some (.int z21.1), some (.int z23.1), some (.int y0_74), some (.int y0_92)]) [0, 1, 2, 4, 5, 6, 7, 8, 9, 10, 11, 12, 13, 14] rfl rfl ?_
                  exact join123 1 hRES
              refine x_icmp_ne (tgt := 109) (pc' := 105) C dL_isSo_102 (by decide) rfl (fun c60 => ?_) (fun c60 => ?_)
              · rw [if_neg c60] at hRES
                refine x_iconst (v := 0) (pc' := 110) C dL_isSo_109 rfl (by decide) ?_
                refine x_forget (L' := [some (.ref h), some (.int (x1_27 + 1)), none, some (.int x3_27), some (.int x4_27), some (.int x5_27), some (.int x6_27), some (.int x7_27), some (.int x8_27), some (.int x9_27), some (.int (nI i10_27)), some (.int z21.1), some (.int z23.1), some (.int y0_74), some (.int y0_92)]) [0, 1, 3, 4, 5, 6, 7, 8, 9, 10, 11, 12, 13, 14] rfl rfl ?_
                exact join110 0 hRES
              · rw [if_pos c60] at hRES
                refine x_iconst (v := 1) (pc' := 106) C dL_isSo_105 rfl (by decide) ?_
                refine x_goto (tgt := 110) C dL_isSo_106 (by decide) ?_
                refine x_forget (L' := [some (.ref h), some (.int (x1_27 + 1)), none, some (.int x3_27), some (.int x4_27), some (.int x5_27), some (.int x6_27), some (.int x7_27), some (.int x8_27), some (.int x9_27), some (.int (nI i10_27)), some (.int z21.1), some (.int z23.1), some (.int y0_74), some (.int y0_92)]) [0, 1, 3, 4, 5, 6, 7, 8, 9, 10, 11, 12, 13, 14] rfl rfl ?_
                exact join110 1 hRES
            refine x_icmp_ne (tgt := 91) (pc' := 87) C dL_isSo_84 (by decide) rfl (fun c61 => ?_) (fun c61 => ?_)
            · rw [if_neg c61] at hRES
              refine x_iconst (v := 0) (pc' := 92) C dL_isSo_91 rfl (by decide) ?_
              exact join92 0 hRES
            · rw [if_pos c61] at hRES
              refine x_iconst (v := 1) (pc' := 88) C dL_isSo_87 rfl (by decide) ?_
              refine x_goto (tgt := 92) C dL_isSo_88 (by decide) ?_
              exact join92 1 hRES
          refine x_ifN_ne (tgt := 66) (pc' := 62) C i10_27 dL_isSo_59 (by decide) rfl (by omega) (fun c62 => ?_) (fun c62 => ?_)
          · rw [if_neg c62] at hRES
            refine x_aload_n (pc' := 67) C dL_isSo_66 rfl rfl rfl ?_
            refine x_iload (pc' := 69) C dL_isSo_67 rfl rfl ?_
            refine x_iload (pc' := 71) C dL_isSo_69 rfl rfl ?_
            refine x_catRV (st := []) (st2 := [.int (f_X6_unlike M N (nI i10_27) z23.1)]) (pc' := 74) (wcs := [wMa h ad M, wSt (kg k) (ad 0) adN N]) C (c_X6_unlike (kl k) (kg k) h ad M adN N (nI i10_27) z23.1) rfl cw_L_52 ok_X6_unlike rfl (by decide) rfl rfl [0, 1] rfl rfl rfl (Nat.le_of_ble_eq_true rfl) (Nat.zero_le _) (Nat.zero_le _) rfl dL_isSo_71 rfl rfl ?_
            exact join74 (f_X6_unlike M N (nI i10_27) z23.1) hRES
          · rw [if_pos c62] at hRES
            refine x_iconst (v := 0) (pc' := 63) C dL_isSo_62 rfl (by decide) ?_
            refine x_goto (tgt := 74) C dL_isSo_63 (by decide) ?_
            exact join74 0 hRES
  exact loop27 25 E 0 0 0 0 0 0 0 0 0 1 (by omega) (by omega) hRES

def k_L_isWaySo_175 (M : CS) (N : CS) (a2 : Int32) (E_175 : CS) (x4_175 : Int32) (x5_175 : Int32) : Bool × CS := (if x5_175 = 0 then (false, E_175) else (bind1 (f_X6_version M N E_175 a2 5) (fun z5 => (if x4_175 = z5.1 then (true, z5.2) else (false, z5.2)))))
def ok_L_isWaySo_175 (M : CS) (N : CS) (a2 : Int32) (E_175 : CS) (x4_175 : Int32) (x5_175 : Int32) : Prop := ((x5_175 = 0 → True) ∧ (¬ (x5_175 = 0) → (bind1 (f_X6_version M N E_175 a2 5) (fun z5 => ((x4_175 = z5.1 → True) ∧ (¬ (x4_175 = z5.1) → True))))))
def j_L_isWaySo_164 (rec_l_L_isWaySo_60 : CS → Int32 → Int32 → Int32 → Nat → Bool × CS) (M : CS) (N : CS) (x3_60 : Int32) (x4_60 : Int32) (i6_60 : Nat) (z8 : Int32 × CS) (E_130 : CS) (y0_164 : Int32) : Bool × CS := (rec_l_L_isWaySo_60 E_130 z8.1 (x4_60 + (f_X6_unlike M N x3_60 z8.1)) y0_164 (i6_60 + 1))
def oj_L_isWaySo_164 (reo_l_L_isWaySo_60 : CS → Int32 → Int32 → Int32 → Nat → Prop) (M : CS) (N : CS) (x3_60 : Int32) (x4_60 : Int32) (i6_60 : Nat) (z8 : Int32 × CS) (E_130 : CS) (y0_164 : Int32) : Prop := (reo_l_L_isWaySo_60 E_130 z8.1 (x4_60 + (f_X6_unlike M N x3_60 z8.1)) y0_164 (i6_60 + 1))
def j_L_isWaySo_130 (rec_l_L_isWaySo_60 : CS → Int32 → Int32 → Int32 → Nat → Bool × CS) (M : CS) (N : CS) (x3_60 : Int32) (x4_60 : Int32) (x5_60 : Int32) (i6_60 : Nat) (z8 : Int32 × CS) (y0_102 : Int32) (E_130 : CS) (y0_130 : Int32) : Bool × CS := (if x5_60 = 0 then (j_L_isWaySo_164 rec_l_L_isWaySo_60 M N x3_60 x4_60 i6_60 z8 E_130 0) else (if y0_102 = 0 then (if y0_130 = 0 then (j_L_isWaySo_164 rec_l_L_isWaySo_60 M N x3_60 x4_60 i6_60 z8 E_130 0) else (j_L_isWaySo_164 rec_l_L_isWaySo_60 M N x3_60 x4_60 i6_60 z8 E_130 1)) else (j_L_isWaySo_164 rec_l_L_isWaySo_60 M N x3_60 x4_60 i6_60 z8 E_130 1)))
def oj_L_isWaySo_130 (reo_l_L_isWaySo_60 : CS → Int32 → Int32 → Int32 → Nat → Prop) (M : CS) (N : CS) (x3_60 : Int32) (x4_60 : Int32) (x5_60 : Int32) (i6_60 : Nat) (z8 : Int32 × CS) (y0_102 : Int32) (E_130 : CS) (y0_130 : Int32) : Prop := ((x5_60 = 0 → (oj_L_isWaySo_164 reo_l_L_isWaySo_60 M N x3_60 x4_60 i6_60 z8 E_130 0)) ∧ (¬ (x5_60 = 0) → ((y0_102 = 0 → ((y0_130 = 0 → (oj_L_isWaySo_164 reo_l_L_isWaySo_60 M N x3_60 x4_60 i6_60 z8 E_130 0)) ∧ (¬ (y0_130 = 0) → (oj_L_isWaySo_164 reo_l_L_isWaySo_60 M N x3_60 x4_60 i6_60 z8 E_130 1)))) ∧ (¬ (y0_102 = 0) → (oj_L_isWaySo_164 reo_l_L_isWaySo_60 M N x3_60 x4_60 i6_60 z8 E_130 1)))))
def j_L_isWaySo_102 (rec_l_L_isWaySo_60 : CS → Int32 → Int32 → Int32 → Nat → Bool × CS) (M : CS) (N : CS) (x3_60 : Int32) (x4_60 : Int32) (x5_60 : Int32) (i6_60 : Nat) (z8 : Int32 × CS) (E_102 : CS) (y0_102 : Int32) : Bool × CS := (bind1 (f_X6_version M N E_102 x3_60 0) (fun z10 => (if z10.1 = z8.1 then (bind1 (f_X6_version M N z10.2 x3_60 1) (fun z15 => (if z15.1 = 1 then (j_L_isWaySo_130 rec_l_L_isWaySo_60 M N x3_60 x4_60 x5_60 i6_60 z8 y0_102 z15.2 1) else (j_L_isWaySo_130 rec_l_L_isWaySo_60 M N x3_60 x4_60 x5_60 i6_60 z8 y0_102 z15.2 0)))) else (j_L_isWaySo_130 rec_l_L_isWaySo_60 M N x3_60 x4_60 x5_60 i6_60 z8 y0_102 z10.2 0))))
def oj_L_isWaySo_102 (reo_l_L_isWaySo_60 : CS → Int32 → Int32 → Int32 → Nat → Prop) (M : CS) (N : CS) (x3_60 : Int32) (x4_60 : Int32) (x5_60 : Int32) (i6_60 : Nat) (z8 : Int32 × CS) (E_102 : CS) (y0_102 : Int32) : Prop := (bind1 (f_X6_version M N E_102 x3_60 0) (fun z10 => ((z10.1 = z8.1 → (bind1 (f_X6_version M N z10.2 x3_60 1) (fun z15 => ((z15.1 = 1 → (oj_L_isWaySo_130 reo_l_L_isWaySo_60 M N x3_60 x4_60 x5_60 i6_60 z8 y0_102 z15.2 1)) ∧ (¬ (z15.1 = 1) → (oj_L_isWaySo_130 reo_l_L_isWaySo_60 M N x3_60 x4_60 x5_60 i6_60 z8 y0_102 z15.2 0)))))) ∧ (¬ (z10.1 = z8.1) → (oj_L_isWaySo_130 reo_l_L_isWaySo_60 M N x3_60 x4_60 x5_60 i6_60 z8 y0_102 z10.2 0)))))
def l_L_isWaySo_60 (M : CS) (N : CS) (a2 : Int32) (z1 : Int32 × CS) : Nat → CS → Int32 → Int32 → Int32 → Nat → Bool × CS
  | 0, _, _, _, _, _ => (false, dfCS)
  | n60 + 1, E_60, x3_60, x4_60, x5_60, i6_60 => (if z1.1 < (nI i6_60) then (k_L_isWaySo_175 M N a2 E_60 x4_60 x5_60) else (bind1 (f_X6_way M N E_60 a2 (nI i6_60)) (fun z8 => (bind1 (f_X6_version M N z8.2 z8.1 0) (fun z9 => (if z9.1 = x3_60 then (bind1 (f_X6_version M N z9.2 z8.1 1) (fun z18 => (if z18.1 = 1 then (j_L_isWaySo_102 (fun E_60 x3_60 x4_60 x5_60 i6_60 => l_L_isWaySo_60 M N a2 z1 n60 E_60 x3_60 x4_60 x5_60 i6_60) M N x3_60 x4_60 x5_60 i6_60 z8 z18.2 1) else (j_L_isWaySo_102 (fun E_60 x3_60 x4_60 x5_60 i6_60 => l_L_isWaySo_60 M N a2 z1 n60 E_60 x3_60 x4_60 x5_60 i6_60) M N x3_60 x4_60 x5_60 i6_60 z8 z18.2 0)))) else (j_L_isWaySo_102 (fun E_60 x3_60 x4_60 x5_60 i6_60 => l_L_isWaySo_60 M N a2 z1 n60 E_60 x3_60 x4_60 x5_60 i6_60) M N x3_60 x4_60 x5_60 i6_60 z8 z9.2 0)))))))
def ol_L_isWaySo_60 (M : CS) (N : CS) (a2 : Int32) (z1 : Int32 × CS) : Nat → CS → Int32 → Int32 → Int32 → Nat → Prop
  | 0, _, _, _, _, _ => False
  | n60 + 1, E_60, x3_60, x4_60, x5_60, i6_60 => ((z1.1 < (nI i6_60) → (ok_L_isWaySo_175 M N a2 E_60 x4_60 x5_60)) ∧ (¬ (z1.1 < (nI i6_60)) → (bind1 (f_X6_way M N E_60 a2 (nI i6_60)) (fun z8 => (bind1 (f_X6_version M N z8.2 z8.1 0) (fun z9 => ((z9.1 = x3_60 → (bind1 (f_X6_version M N z9.2 z8.1 1) (fun z18 => ((z18.1 = 1 → (oj_L_isWaySo_102 (fun E_60 x3_60 x4_60 x5_60 i6_60 => ol_L_isWaySo_60 M N a2 z1 n60 E_60 x3_60 x4_60 x5_60 i6_60) M N x3_60 x4_60 x5_60 i6_60 z8 z18.2 1)) ∧ (¬ (z18.1 = 1) → (oj_L_isWaySo_102 (fun E_60 x3_60 x4_60 x5_60 i6_60 => ol_L_isWaySo_60 M N a2 z1 n60 E_60 x3_60 x4_60 x5_60 i6_60) M N x3_60 x4_60 x5_60 i6_60 z8 z18.2 0)))))) ∧ (¬ (z9.1 = x3_60) → (oj_L_isWaySo_102 (fun E_60 x3_60 x4_60 x5_60 i6_60 => ol_L_isWaySo_60 M N a2 z1 n60 E_60 x3_60 x4_60 x5_60 i6_60) M N x3_60 x4_60 x5_60 i6_60 z8 z9.2 0)))))))))
def j_L_isWaySo_55 (M : CS) (N : CS) (a2 : Int32) (z1 : Int32 × CS) (z2 : Int32 × CS) (E_55 : CS) (y0_55 : Int32) : Bool × CS := (l_L_isWaySo_60 M N a2 z1 25 E_55 z2.1 0 y0_55 1)
def oj_L_isWaySo_55 (M : CS) (N : CS) (a2 : Int32) (z1 : Int32 × CS) (z2 : Int32 × CS) (E_55 : CS) (y0_55 : Int32) : Prop := (ol_L_isWaySo_60 M N a2 z1 25 E_55 z2.1 0 y0_55 1)
def f_L_isWaySo (M : CS) (N : CS) (E : CS) (a2 : Int32) : Bool × CS := (bind1 (f_X6_version M N E a2 4) (fun z1 => (bind1 (f_X6_way M N z1.2 a2 0) (fun z2 => (bind1 (f_X6_version M N z2.2 a2 3) (fun z3 => (if z2.1 = z3.1 then (bind1 (f_X6_way M N z3.2 a2 z1.1) (fun z21 => (if z21.1 = a2 then (bind1 (f_X6_way M N z21.2 a2 (z1.1 + 1)) (fun z23 => (if z23.1 = (-5) then (j_L_isWaySo_55 M N a2 z1 z2 z23.2 1) else (j_L_isWaySo_55 M N a2 z1 z2 z23.2 0)))) else (j_L_isWaySo_55 M N a2 z1 z2 z21.2 0)))) else (j_L_isWaySo_55 M N a2 z1 z2 z3.2 0))))))))
def o_L_isWaySo (M : CS) (N : CS) (E : CS) (a2 : Int32) : Prop := (bind1 (f_X6_version M N E a2 4) (fun z1 => (bind1 (f_X6_way M N z1.2 a2 0) (fun z2 => (bind1 (f_X6_version M N z2.2 a2 3) (fun z3 => ((z2.1 = z3.1 → (bind1 (f_X6_way M N z3.2 a2 z1.1) (fun z21 => ((z21.1 = a2 → (bind1 (f_X6_way M N z21.2 a2 (z1.1 + 1)) (fun z23 => ((z23.1 = (-5) → (oj_L_isWaySo_55 M N a2 z1 z2 z23.2 1)) ∧ (¬ (z23.1 = (-5)) → (oj_L_isWaySo_55 M N a2 z1 z2 z23.2 0)))))) ∧ (¬ (z21.1 = a2) → (oj_L_isWaySo_55 M N a2 z1 z2 z21.2 0)))))) ∧ (¬ (z2.1 = z3.1) → (oj_L_isWaySo_55 M N a2 z1 z2 z3.2 0)))))))))
set_option maxRecDepth 100000 in
set_option maxHeartbeats 8000000 in
theorem c_L_isWaySo (l : Launch) (g : GT) (h : Nat) (ad : Nat → Nat) (M : CS) (adN : Nat → Nat) (N : CS) (adE : Nat → Nat) (E : CS) (a2 : Int32) (hok : o_L_isWaySo M N E a2) : CW l yL_isWaySo (.code yL_isWaySo cL_isWaySo 10 (some .boolean)) 6 g [.ref h, .int a2] (cat [wMa h ad M, wSt g (ad 0) adN N, wRe g (ad 5) adE E]) (some (.int (bI (f_L_isWaySo M N E a2).1))) (cat [wMa h ad M, wSt g (ad 0) adN N, wRe g (ad 5) adE (f_L_isWaySo M N E a2).2]) := by
  obtain ⟨RES, hRES⟩ : ∃ z, z = (f_L_isWaySo M N E a2) := ⟨_, rfl⟩
  rw [← hRES]
  unfold f_L_isWaySo at hRES
  unfold o_L_isWaySo at hok
  refine CWx.of (nL := 10) (ret := (some .boolean)) (own := RL) (cc := cL_isWaySo) rfl (by decide) rfl (List.forall_mem_cons.mpr ⟨rfl, (List.forall_mem_cons.mpr ⟨rfl, (fun _ h => absurd h List.not_mem_nil)⟩)⟩) (Nat.le_of_ble_eq_true rfl) ?_
  intro k C B hin hkl hkg
  subst hkl; subst hkg
  refine x_loc2 (L' := [some (.ref h), some (.int a2), none, none, none, none, none, none, none, none]) rfl ?_
  refine x_aload_n (pc' := 1) C dL_isWaySo_0 rfl rfl rfl ?_
  refine x_iload_n (pc' := 2) C dL_isWaySo_1 rfl rfl rfl ?_
  refine x_iconst (v := 4) (pc' := 3) C dL_isWaySo_2 rfl (by decide) ?_
  obtain ⟨z1, ez1⟩ : ∃ z, z = (f_X6_version M N E a2 4) := ⟨_, rfl⟩
  replace hRES := bd hRES z1 ez1
  replace hok := bdP hok z1 ez1
  have hc := c_X6_version (kl k) (kg k) h ad M adN N adE E a2 4
  rw [← ez1] at hc
  refine x_catWV (st := []) (st2 := [.int z1.1]) (pc' := 6) (wcs := [wMa h ad M, wSt (kg k) (ad 0) adN N, wRe (kg k) (ad 5) adE E]) (wrs := []) (wcs' := [wMa h ad M, wSt (kg k) (ad 0) adN N, wRe (kg k) (ad 5) adE z1.2]) C B [wMa h ad M, wSt (kg k) (ad 0) adN N, wRe (kg k) (ad 5) adE z1.2] hc rfl rfl cw_L_14 ok_X6_version rfl (by decide) rfl rfl [0, 1, 2] [0, 1, 2] rfl rfl rfl rfl rfl (Nat.le_of_ble_eq_true rfl) (Nat.zero_le _) (Nat.zero_le _) rfl dL_isWaySo_3 rfl rfl ?_
  refine x_istore_n (pc' := 7) (L' := [some (.ref h), some (.int a2), some (.int z1.1), none, none, none, none, none, none, none]) C dL_isWaySo_6 rfl rfl (Nat.le_of_ble_eq_true rfl) rfl ?_
  refine x_aload_n (pc' := 8) C dL_isWaySo_7 rfl rfl rfl ?_
  refine x_iload_n (pc' := 9) C dL_isWaySo_8 rfl rfl rfl ?_
  refine x_iconst (v := 0) (pc' := 10) C dL_isWaySo_9 rfl (by decide) ?_
  obtain ⟨z2, ez2⟩ : ∃ z, z = (f_X6_way M N z1.2 a2 0) := ⟨_, rfl⟩
  replace hRES := bd hRES z2 ez2
  replace hok := bdP hok z2 ez2
  have hc := c_X6_way (kl k) (kg k) h ad M adN N adE z1.2 a2 0
  rw [← ez2] at hc
  refine x_catWV (st := []) (st2 := [.int z2.1]) (pc' := 13) (wcs := [wMa h ad M, wSt (kg k) (ad 0) adN N, wRe (kg k) (ad 5) adE z1.2]) (wrs := []) (wcs' := [wMa h ad M, wSt (kg k) (ad 0) adN N, wRe (kg k) (ad 5) adE z2.2]) C B [wMa h ad M, wSt (kg k) (ad 0) adN N, wRe (kg k) (ad 5) adE z2.2] hc rfl rfl cw_L_55 ok_X6_way rfl (by decide) rfl rfl [0, 1, 2] [0, 1, 2] rfl rfl rfl rfl rfl (Nat.le_of_ble_eq_true rfl) (Nat.zero_le _) (Nat.zero_le _) rfl dL_isWaySo_10 rfl rfl ?_
  refine x_istore_n (pc' := 14) (L' := [some (.ref h), some (.int a2), some (.int z1.1), some (.int z2.1), none, none, none, none, none, none]) C dL_isWaySo_13 rfl rfl (Nat.le_of_ble_eq_true rfl) rfl ?_
  refine x_iconst (v := 0) (pc' := 15) C dL_isWaySo_14 rfl (by decide) ?_
  refine x_istore (pc' := 17) (L' := [some (.ref h), some (.int a2), some (.int z1.1), some (.int z2.1), some (.int 0), none, none, none, none, none]) C dL_isWaySo_15 rfl (Nat.le_of_ble_eq_true rfl) rfl ?_
  refine x_iload_n (pc' := 18) C dL_isWaySo_17 rfl rfl rfl ?_
  refine x_aload_n (pc' := 19) C dL_isWaySo_18 rfl rfl rfl ?_
  refine x_iload_n (pc' := 20) C dL_isWaySo_19 rfl rfl rfl ?_
  refine x_iconst (v := 3) (pc' := 21) C dL_isWaySo_20 rfl (by decide) ?_
  obtain ⟨z3, ez3⟩ : ∃ z, z = (f_X6_version M N z2.2 a2 3) := ⟨_, rfl⟩
  replace hRES := bd hRES z3 ez3
  replace hok := bdP hok z3 ez3
  have hc := c_X6_version (kl k) (kg k) h ad M adN N adE z2.2 a2 3
  rw [← ez3] at hc
  refine x_catWV (st := [.int z2.1]) (st2 := [.int z3.1, .int z2.1]) (pc' := 24) (wcs := [wMa h ad M, wSt (kg k) (ad 0) adN N, wRe (kg k) (ad 5) adE z2.2]) (wrs := []) (wcs' := [wMa h ad M, wSt (kg k) (ad 0) adN N, wRe (kg k) (ad 5) adE z3.2]) C B [wMa h ad M, wSt (kg k) (ad 0) adN N, wRe (kg k) (ad 5) adE z3.2] hc rfl rfl cw_L_14 ok_X6_version rfl (by decide) rfl rfl [0, 1, 2] [0, 1, 2] rfl rfl rfl rfl rfl (Nat.le_of_ble_eq_true rfl) (Nat.zero_le _) (Nat.zero_le _) rfl dL_isWaySo_21 rfl rfl ?_
  have join55 : ∀ (E_55 : CS) (y0_55 : Int32), RES = j_L_isWaySo_55 M N a2 z1 z2 E_55 y0_55 → oj_L_isWaySo_55 M N a2 z1 z2 E_55 y0_55 → X k 0 0 (cat [wMa h ad M, wSt (kg k) (ad 0) adN N, wRe (kg k) (ad 5) adE E_55]) 55 [some (.ref h), some (.int a2), some (.int z1.1), some (.int z2.1), some (.int 0), none, none, none, none, none] [.int y0_55] := by
    intro E_55 y0_55 hRES hok
    unfold j_L_isWaySo_55 at hRES
    unfold oj_L_isWaySo_55 at hok
    refine x_istore (pc' := 57) (L' := [some (.ref h), some (.int a2), some (.int z1.1), some (.int z2.1), some (.int 0), some (.int y0_55), none, none, none, none]) C dL_isWaySo_55 rfl (Nat.le_of_ble_eq_true rfl) rfl ?_
    refine x_iconst (v := 1) (pc' := 58) C dL_isWaySo_57 rfl (by decide) ?_
    refine x_istore (pc' := 60) (L' := [some (.ref h), some (.int a2), some (.int z1.1), some (.int z2.1), some (.int 0), some (.int y0_55), some (.int 1), none, none, none]) C dL_isWaySo_58 rfl (Nat.le_of_ble_eq_true rfl) rfl ?_
    have cont175 : ∀ (E_175 : CS) (x4_175 : Int32) (x5_175 : Int32), RES = k_L_isWaySo_175 M N a2 E_175 x4_175 x5_175 → ok_L_isWaySo_175 M N a2 E_175 x4_175 x5_175 → X k 0 0 (cat [wMa h ad M, wSt (kg k) (ad 0) adN N, wRe (kg k) (ad 5) adE E_175]) 175 [some (.ref h), some (.int a2), none, none, some (.int x4_175), some (.int x5_175), none, none, none, none] [] := by
      intro E_175 x4_175 x5_175 hRES hok
      unfold k_L_isWaySo_175 at hRES
      unfold ok_L_isWaySo_175 at hok
      refine x_iload (pc' := 177) C dL_isWaySo_175 rfl rfl ?_
      refine x_if_eq (tgt := 195) (pc' := 180) C dL_isWaySo_177 (by decide) rfl (fun c4 => ?_) (fun c4 => ?_)
      · rw [if_pos c4] at hRES
        replace hok := hok.1 c4
        refine x_iconst (v := 0) (pc' := 196) C dL_isWaySo_195 rfl (by decide) ?_
        exact x_zret (b := false) C (Nat.zero_le _) (Nat.zero_le _) dL_isWaySo_196 ⟨by rw [hRES], by rw [hRES]⟩
      · rw [if_neg c4] at hRES
        replace hok := hok.2 c4
        refine x_iload (pc' := 182) C dL_isWaySo_180 rfl rfl ?_
        refine x_aload_n (pc' := 183) C dL_isWaySo_182 rfl rfl rfl ?_
        refine x_iload_n (pc' := 184) C dL_isWaySo_183 rfl rfl rfl ?_
        refine x_iconst (v := 5) (pc' := 185) C dL_isWaySo_184 rfl (by decide) ?_
        obtain ⟨z5, ez5⟩ : ∃ z, z = (f_X6_version M N E_175 a2 5) := ⟨_, rfl⟩
        replace hRES := bd hRES z5 ez5
        replace hok := bdP hok z5 ez5
        have hc := c_X6_version (kl k) (kg k) h ad M adN N adE E_175 a2 5
        rw [← ez5] at hc
        refine x_catWV (st := [.int x4_175]) (st2 := [.int z5.1, .int x4_175]) (pc' := 188) (wcs := [wMa h ad M, wSt (kg k) (ad 0) adN N, wRe (kg k) (ad 5) adE E_175]) (wrs := []) (wcs' := [wMa h ad M, wSt (kg k) (ad 0) adN N, wRe (kg k) (ad 5) adE z5.2]) C B [wMa h ad M, wSt (kg k) (ad 0) adN N, wRe (kg k) (ad 5) adE z5.2] hc rfl rfl cw_L_14 ok_X6_version rfl (by decide) rfl rfl [0, 1, 2] [0, 1, 2] rfl rfl rfl rfl rfl (Nat.le_of_ble_eq_true rfl) (Nat.zero_le _) (Nat.zero_le _) rfl dL_isWaySo_185 rfl rfl ?_
        refine x_icmp_ne (tgt := 195) (pc' := 191) C dL_isWaySo_188 (by decide) rfl (fun c6 => ?_) (fun c6 => ?_)
        · rw [if_neg c6] at hRES
          replace hok := hok.2 c6
          refine x_iconst (v := 0) (pc' := 196) C dL_isWaySo_195 rfl (by decide) ?_
          exact x_zret (b := false) C (Nat.zero_le _) (Nat.zero_le _) dL_isWaySo_196 ⟨by rw [hRES], by rw [hRES]⟩
        · rw [if_pos c6] at hRES
          replace hok := hok.1 c6
          refine x_iconst (v := 1) (pc' := 192) C dL_isWaySo_191 rfl (by decide) ?_
          refine x_goto (tgt := 196) C dL_isWaySo_192 (by decide) ?_
          exact x_zret (b := true) C (Nat.zero_le _) (Nat.zero_le _) dL_isWaySo_196 ⟨by rw [hRES], by rw [hRES]⟩
    have loop60 : ∀ (n60 : Nat) (E_60 : CS) (x3_60 : Int32) (x4_60 : Int32) (x5_60 : Int32) (i6_60 : Nat), RES = l_L_isWaySo_60 M N a2 z1 n60 E_60 x3_60 x4_60 x5_60 i6_60 → ol_L_isWaySo_60 M N a2 z1 n60 E_60 x3_60 x4_60 x5_60 i6_60 → X k 0 0 (cat [wMa h ad M, wSt (kg k) (ad 0) adN N, wRe (kg k) (ad 5) adE E_60]) 60 [some (.ref h), some (.int a2), some (.int z1.1), some (.int x3_60), some (.int x4_60), some (.int x5_60), some (.int (nI i6_60)), none, none, none] [] := by
      intro n60
      induction n60 with
      | zero =>
        intro E_60 x3_60 x4_60 x5_60 i6_60 hRES hok
        exact (show False from hok).elim
      | succ n60 ih60 =>
        intro E_60 x3_60 x4_60 x5_60 i6_60 hRES hok
        rw [l_L_isWaySo_60] at hRES
        rw [ol_L_isWaySo_60] at hok
        refine x_iload (pc' := 62) C dL_isWaySo_60 rfl rfl ?_
        refine x_iload_n (pc' := 63) C dL_isWaySo_62 rfl rfl rfl ?_
        refine x_icmp_gt (tgt := 175) (pc' := 66) C dL_isWaySo_63 (by decide) rfl (fun c7 => ?_) (fun c7 => ?_)
        · rw [if_pos c7] at hRES
          replace hok := hok.1 c7
          refine x_forget (L' := [some (.ref h), some (.int a2), none, none, some (.int x4_60), some (.int x5_60), none, none, none, none]) [0, 1, 4, 5] rfl rfl ?_
          exact cont175 E_60 x4_60 x5_60 hRES hok
        · rw [if_neg c7] at hRES
          replace hok := hok.2 c7
          refine x_aload_n (pc' := 67) C dL_isWaySo_66 rfl rfl rfl ?_
          refine x_iload_n (pc' := 68) C dL_isWaySo_67 rfl rfl rfl ?_
          refine x_iload (pc' := 70) C dL_isWaySo_68 rfl rfl ?_
          obtain ⟨z8, ez8⟩ : ∃ z, z = (f_X6_way M N E_60 a2 (nI i6_60)) := ⟨_, rfl⟩
          replace hRES := bd hRES z8 ez8
          replace hok := bdP hok z8 ez8
          have hc := c_X6_way (kl k) (kg k) h ad M adN N adE E_60 a2 (nI i6_60)
          rw [← ez8] at hc
          refine x_catWV (st := []) (st2 := [.int z8.1]) (pc' := 73) (wcs := [wMa h ad M, wSt (kg k) (ad 0) adN N, wRe (kg k) (ad 5) adE E_60]) (wrs := []) (wcs' := [wMa h ad M, wSt (kg k) (ad 0) adN N, wRe (kg k) (ad 5) adE z8.2]) C B [wMa h ad M, wSt (kg k) (ad 0) adN N, wRe (kg k) (ad 5) adE z8.2] hc rfl rfl cw_L_55 ok_X6_way rfl (by decide) rfl rfl [0, 1, 2] [0, 1, 2] rfl rfl rfl rfl rfl (Nat.le_of_ble_eq_true rfl) (Nat.zero_le _) (Nat.zero_le _) rfl dL_isWaySo_70 rfl rfl ?_
          refine x_istore (pc' := 75) (L' := [some (.ref h), some (.int a2), some (.int z1.1), some (.int x3_60), some (.int x4_60), some (.int x5_60), some (.int (nI i6_60)), some (.int z8.1), none, none]) C dL_isWaySo_73 rfl (Nat.le_of_ble_eq_true rfl) rfl ?_
          refine x_aload_n (pc' := 76) C dL_isWaySo_75 rfl rfl rfl ?_
          refine x_iload (pc' := 78) C dL_isWaySo_76 rfl rfl ?_
          refine x_iconst (v := 0) (pc' := 79) C dL_isWaySo_78 rfl (by decide) ?_
          obtain ⟨z9, ez9⟩ : ∃ z, z = (f_X6_version M N z8.2 z8.1 0) := ⟨_, rfl⟩
          replace hRES := bd hRES z9 ez9
          replace hok := bdP hok z9 ez9
          have hc := c_X6_version (kl k) (kg k) h ad M adN N adE z8.2 z8.1 0
          rw [← ez9] at hc
          refine x_catWV (st := []) (st2 := [.int z9.1]) (pc' := 82) (wcs := [wMa h ad M, wSt (kg k) (ad 0) adN N, wRe (kg k) (ad 5) adE z8.2]) (wrs := []) (wcs' := [wMa h ad M, wSt (kg k) (ad 0) adN N, wRe (kg k) (ad 5) adE z9.2]) C B [wMa h ad M, wSt (kg k) (ad 0) adN N, wRe (kg k) (ad 5) adE z9.2] hc rfl rfl cw_L_14 ok_X6_version rfl (by decide) rfl rfl [0, 1, 2] [0, 1, 2] rfl rfl rfl rfl rfl (Nat.le_of_ble_eq_true rfl) (Nat.zero_le _) (Nat.zero_le _) rfl dL_isWaySo_79 rfl rfl ?_
          refine x_iload_n (pc' := 83) C dL_isWaySo_82 rfl rfl rfl ?_
          have join102 : ∀ (E_102 : CS) (y0_102 : Int32), RES = j_L_isWaySo_102 (fun E_60 x3_60 x4_60 x5_60 i6_60 => l_L_isWaySo_60 M N a2 z1 n60 E_60 x3_60 x4_60 x5_60 i6_60) M N x3_60 x4_60 x5_60 i6_60 z8 E_102 y0_102 → oj_L_isWaySo_102 (fun E_60 x3_60 x4_60 x5_60 i6_60 => ol_L_isWaySo_60 M N a2 z1 n60 E_60 x3_60 x4_60 x5_60 i6_60) M N x3_60 x4_60 x5_60 i6_60 z8 E_102 y0_102 → X k 0 0 (cat [wMa h ad M, wSt (kg k) (ad 0) adN N, wRe (kg k) (ad 5) adE E_102]) 102 [some (.ref h), some (.int a2), some (.int z1.1), some (.int x3_60), some (.int x4_60), some (.int x5_60), some (.int (nI i6_60)), some (.int z8.1), none, none] [.int y0_102] := by
            intro E_102 y0_102 hRES hok
            unfold j_L_isWaySo_102 at hRES
            unfold oj_L_isWaySo_102 at hok
            refine x_istore (pc' := 104) (L' := [some (.ref h), some (.int a2), some (.int z1.1), some (.int x3_60), some (.int x4_60), some (.int x5_60), some (.int (nI i6_60)), some (.int z8.1), some (.int y0_102), none]) C dL_isWaySo_102 rfl (Nat.le_of_ble_eq_true rfl) rfl ?_
            refine x_aload_n (pc' := 105) C dL_isWaySo_104 rfl rfl rfl ?_
            refine x_iload_n (pc' := 106) C dL_isWaySo_105 rfl rfl rfl ?_
            refine x_iconst (v := 0) (pc' := 107) C dL_isWaySo_106 rfl (by decide) ?_
            obtain ⟨z10, ez10⟩ : ∃ z, z = (f_X6_version M N E_102 x3_60 0) := ⟨_, rfl⟩
            replace hRES := bd hRES z10 ez10
            replace hok := bdP hok z10 ez10
            have hc := c_X6_version (kl k) (kg k) h ad M adN N adE E_102 x3_60 0
            rw [← ez10] at hc
            refine x_catWV (st := []) (st2 := [.int z10.1]) (pc' := 110) (wcs := [wMa h ad M, wSt (kg k) (ad 0) adN N, wRe (kg k) (ad 5) adE E_102]) (wrs := []) (wcs' := [wMa h ad M, wSt (kg k) (ad 0) adN N, wRe (kg k) (ad 5) adE z10.2]) C B [wMa h ad M, wSt (kg k) (ad 0) adN N, wRe (kg k) (ad 5) adE z10.2] hc rfl rfl cw_L_14 ok_X6_version rfl (by decide) rfl rfl [0, 1, 2] [0, 1, 2] rfl rfl rfl rfl rfl (Nat.le_of_ble_eq_true rfl) (Nat.zero_le _) (Nat.zero_le _) rfl dL_isWaySo_107 rfl rfl ?_
            refine x_iload (pc' := 112) C dL_isWaySo_110 rfl rfl ?_
            have join130 : ∀ (E_130 : CS) (y0_130 : Int32), RES = j_L_isWaySo_130 (fun E_60 x3_60 x4_60 x5_60 i6_60 => l_L_isWaySo_60 M N a2 z1 n60 E_60 x3_60 x4_60 x5_60 i6_60) M N x3_60 x4_60 x5_60 i6_60 z8 y0_102 E_130 y0_130 → oj_L_isWaySo_130 (fun E_60 x3_60 x4_60 x5_60 i6_60 => ol_L_isWaySo_60 M N a2 z1 n60 E_60 x3_60 x4_60 x5_60 i6_60) M N x3_60 x4_60 x5_60 i6_60 z8 y0_102 E_130 y0_130 → X k 0 0 (cat [wMa h ad M, wSt (kg k) (ad 0) adN N, wRe (kg k) (ad 5) adE E_130]) 130 [some (.ref h), some (.int a2), some (.int z1.1), some (.int x3_60), some (.int x4_60), some (.int x5_60), some (.int (nI i6_60)), some (.int z8.1), some (.int y0_102), none] [.int y0_130] := by
              intro E_130 y0_130 hRES hok
              unfold j_L_isWaySo_130 at hRES
              unfold oj_L_isWaySo_130 at hok
              refine x_istore (pc' := 132) (L' := [some (.ref h), some (.int a2), some (.int z1.1), some (.int x3_60), some (.int x4_60), some (.int x5_60), some (.int (nI i6_60)), some (.int z8.1), some (.int y0_102), some (.int y0_130)]) C dL_isWaySo_130 rfl (Nat.le_of_ble_eq_true rfl) rfl ?_
              refine x_iload (pc' := 134) C dL_isWaySo_132 rfl rfl ?_
              refine x_aload_n (pc' := 135) C dL_isWaySo_134 rfl rfl rfl ?_
              refine x_iload_n (pc' := 136) C dL_isWaySo_135 rfl rfl rfl ?_
              refine x_iload (pc' := 138) C dL_isWaySo_136 rfl rfl ?_
              refine x_catRV (st := [.int x4_60]) (st2 := [.int (f_X6_unlike M N x3_60 z8.1), .int x4_60]) (pc' := 141) (wcs := [wMa h ad M, wSt (kg k) (ad 0) adN N]) C (c_X6_unlike (kl k) (kg k) h ad M adN N x3_60 z8.1) rfl cw_L_52 ok_X6_unlike rfl (by decide) rfl rfl [0, 1] rfl rfl rfl (Nat.le_of_ble_eq_true rfl) (Nat.zero_le _) (Nat.zero_le _) rfl dL_isWaySo_138 rfl rfl ?_
              refine x_iadd (pc' := 142) (v := (x4_60 + (f_X6_unlike M N x3_60 z8.1))) C dL_isWaySo_141 rfl rfl ?_
              refine x_istore (pc' := 144) (L' := [some (.ref h), some (.int a2), some (.int z1.1), some (.int x3_60), some (.int (x4_60 + (f_X6_unlike M N x3_60 z8.1))), some (.int x5_60), some (.int (nI i6_60)), some (.int z8.1), some (.int y0_102), some (.int y0_130)]) C dL_isWaySo_142 rfl (Nat.le_of_ble_eq_true rfl) rfl ?_
              refine x_iload (pc' := 146) C dL_isWaySo_144 rfl rfl ?_
              have join164 : ∀ (y0_164 : Int32), RES = j_L_isWaySo_164 (fun E_60 x3_60 x4_60 x5_60 i6_60 => l_L_isWaySo_60 M N a2 z1 n60 E_60 x3_60 x4_60 x5_60 i6_60) M N x3_60 x4_60 i6_60 z8 E_130 y0_164 → oj_L_isWaySo_164 (fun E_60 x3_60 x4_60 x5_60 i6_60 => ol_L_isWaySo_60 M N a2 z1 n60 E_60 x3_60 x4_60 x5_60 i6_60) M N x3_60 x4_60 i6_60 z8 E_130 y0_164 → X k 0 0 (cat [wMa h ad M, wSt (kg k) (ad 0) adN N, wRe (kg k) (ad 5) adE E_130]) 164 [some (.ref h), some (.int a2), some (.int z1.1), none, some (.int (x4_60 + (f_X6_unlike M N x3_60 z8.1))), none, some (.int (nI i6_60)), some (.int z8.1), none, none] [.int y0_164] := by
                intro y0_164 hRES hok
                unfold j_L_isWaySo_164 at hRES
                unfold oj_L_isWaySo_164 at hok
                refine x_istore (pc' := 166) (L' := [some (.ref h), some (.int a2), some (.int z1.1), none, some (.int (x4_60 + (f_X6_unlike M N x3_60 z8.1))), some (.int y0_164), some (.int (nI i6_60)), some (.int z8.1), none, none]) C dL_isWaySo_164 rfl (Nat.le_of_ble_eq_true rfl) rfl ?_
                refine x_iload (pc' := 168) C dL_isWaySo_166 rfl rfl ?_
                refine x_istore_n (pc' := 169) (L' := [some (.ref h), some (.int a2), some (.int z1.1), some (.int z8.1), some (.int (x4_60 + (f_X6_unlike M N x3_60 z8.1))), some (.int y0_164), some (.int (nI i6_60)), some (.int z8.1), none, none]) C dL_isWaySo_168 rfl rfl (Nat.le_of_ble_eq_true rfl) rfl ?_
                refine x_iinc (pc' := 172) (v := (nI (i6_60 + 1))) (L' := [some (.ref h), some (.int a2), some (.int z1.1), some (.int z8.1), some (.int (x4_60 + (f_X6_unlike M N x3_60 z8.1))), some (.int y0_164), some (.int (nI (i6_60 + 1))), some (.int z8.1), none, none]) C dL_isWaySo_169 rfl rfl (nI_add i6_60 1) (Nat.le_of_ble_eq_true rfl) rfl ?_
                refine x_goto (tgt := 60) C dL_isWaySo_172 (by decide) ?_
                refine x_forget (L' := [some (.ref h), some (.int a2), some (.int z1.1), some (.int z8.1), some (.int (x4_60 + (f_X6_unlike M N x3_60 z8.1))), some (.int y0_164), some (.int (nI (i6_60 + 1))), none, none, none]) [0, 1, 2, 3, 4, 5, 6] rfl rfl ?_
                exact ih60 E_130 z8.1 (x4_60 + (f_X6_unlike M N x3_60 z8.1)) y0_164 (i6_60 + 1) hRES hok
              refine x_if_eq (tgt := 163) (pc' := 149) C dL_isWaySo_146 (by decide) rfl (fun c11 => ?_) (fun c11 => ?_)
              · rw [if_pos c11] at hRES
                replace hok := hok.1 c11
                refine x_iconst (v := 0) (pc' := 164) C dL_isWaySo_163 rfl (by decide) ?_
                refine x_forget (L' := [some (.ref h), some (.int a2), some (.int z1.1), none, some (.int (x4_60 + (f_X6_unlike M N x3_60 z8.1))), none, some (.int (nI i6_60)), some (.int z8.1), none, none]) [0, 1, 2, 4, 6, 7] rfl rfl ?_
                exact join164 0 hRES hok
              · rw [if_neg c11] at hRES
                replace hok := hok.2 c11
                refine x_iload (pc' := 151) C dL_isWaySo_149 rfl rfl ?_
                refine x_if_ne (tgt := 159) (pc' := 154) C dL_isWaySo_151 (by decide) rfl (fun c12 => ?_) (fun c12 => ?_)
                · rw [if_neg c12] at hRES
                  replace hok := hok.2 c12
                  refine x_iconst (v := 1) (pc' := 160) C dL_isWaySo_159 rfl (by decide) ?_
                  refine x_goto (tgt := 164) C dL_isWaySo_160 (by decide) ?_
                  refine x_forget (L' := [some (.ref h), some (.int a2), some (.int z1.1), none, some (.int (x4_60 + (f_X6_unlike M N x3_60 z8.1))), none, some (.int (nI i6_60)), some (.int z8.1), none, none]) [0, 1, 2, 4, 6, 7] rfl rfl ?_
                  exact join164 1 hRES hok
                · rw [if_pos c12] at hRES
                  replace hok := hok.1 c12
                  refine x_iload (pc' := 156) C dL_isWaySo_154 rfl rfl ?_
                  refine x_if_eq (tgt := 163) (pc' := 159) C dL_isWaySo_156 (by decide) rfl (fun c13 => ?_) (fun c13 => ?_)
                  · rw [if_pos c13] at hRES
                    replace hok := hok.1 c13
                    refine x_iconst (v := 0) (pc' := 164) C dL_isWaySo_163 rfl (by decide) ?_
                    refine x_forget (L' := [some (.ref h), some (.int a2), some (.int z1.1), none, some (.int (x4_60 + (f_X6_unlike M N x3_60 z8.1))), none, some (.int (nI i6_60)), some (.int z8.1), none, none]) [0, 1, 2, 4, 6, 7] rfl rfl ?_
                    exact join164 0 hRES hok
                  · rw [if_neg c13] at hRES
                    replace hok := hok.2 c13
                    refine x_iconst (v := 1) (pc' := 160) C dL_isWaySo_159 rfl (by decide) ?_
                    refine x_goto (tgt := 164) C dL_isWaySo_160 (by decide) ?_
                    refine x_forget (L' := [some (.ref h), some (.int a2), some (.int z1.1), none, some (.int (x4_60 + (f_X6_unlike M N x3_60 z8.1))), none, some (.int (nI i6_60)), some (.int z8.1), none, none]) [0, 1, 2, 4, 6, 7] rfl rfl ?_
                    exact join164 1 hRES hok
            refine x_icmp_ne (tgt := 129) (pc' := 115) C dL_isWaySo_112 (by decide) rfl (fun c14 => ?_) (fun c14 => ?_)
            · rw [if_neg c14] at hRES
              replace hok := hok.2 c14
              refine x_iconst (v := 0) (pc' := 130) C dL_isWaySo_129 rfl (by decide) ?_
              exact join130 z10.2 0 hRES hok
            · rw [if_pos c14] at hRES
              replace hok := hok.1 c14
              refine x_aload_n (pc' := 116) C dL_isWaySo_115 rfl rfl rfl ?_
              refine x_iload_n (pc' := 117) C dL_isWaySo_116 rfl rfl rfl ?_
              refine x_iconst (v := 1) (pc' := 118) C dL_isWaySo_117 rfl (by decide) ?_
              obtain ⟨z15, ez15⟩ : ∃ z, z = (f_X6_version M N z10.2 x3_60 1) := ⟨_, rfl⟩
              replace hRES := bd hRES z15 ez15
              replace hok := bdP hok z15 ez15
              have hc := c_X6_version (kl k) (kg k) h ad M adN N adE z10.2 x3_60 1
              rw [← ez15] at hc
              refine x_catWV (st := []) (st2 := [.int z15.1]) (pc' := 121) (wcs := [wMa h ad M, wSt (kg k) (ad 0) adN N, wRe (kg k) (ad 5) adE z10.2]) (wrs := []) (wcs' := [wMa h ad M, wSt (kg k) (ad 0) adN N, wRe (kg k) (ad 5) adE z15.2]) C B [wMa h ad M, wSt (kg k) (ad 0) adN N, wRe (kg k) (ad 5) adE z15.2] hc rfl rfl cw_L_14 ok_X6_version rfl (by decide) rfl rfl [0, 1, 2] [0, 1, 2] rfl rfl rfl rfl rfl (Nat.le_of_ble_eq_true rfl) (Nat.zero_le _) (Nat.zero_le _) rfl dL_isWaySo_118 rfl rfl ?_
              refine x_iconst (v := 1) (pc' := 122) C dL_isWaySo_121 rfl (by decide) ?_
              refine x_icmp_ne (tgt := 129) (pc' := 125) C dL_isWaySo_122 (by decide) rfl (fun c16 => ?_) (fun c16 => ?_)
              · rw [if_neg c16] at hRES
                replace hok := hok.2 c16
                refine x_iconst (v := 0) (pc' := 130) C dL_isWaySo_129 rfl (by decide) ?_
                exact join130 z15.2 0 hRES hok
              · rw [if_pos c16] at hRES
                replace hok := hok.1 c16
                refine x_iconst (v := 1) (pc' := 126) C dL_isWaySo_125 rfl (by decide) ?_
                refine x_goto (tgt := 130) C dL_isWaySo_126 (by decide) ?_
                exact join130 z15.2 1 hRES hok
          refine x_icmp_ne (tgt := 101) (pc' := 86) C dL_isWaySo_83 (by decide) rfl (fun c17 => ?_) (fun c17 => ?_)
          · rw [if_neg c17] at hRES
            replace hok := hok.2 c17
            refine x_iconst (v := 0) (pc' := 102) C dL_isWaySo_101 rfl (by decide) ?_
            exact join102 z9.2 0 hRES hok
          · rw [if_pos c17] at hRES
            replace hok := hok.1 c17
            refine x_aload_n (pc' := 87) C dL_isWaySo_86 rfl rfl rfl ?_
            refine x_iload (pc' := 89) C dL_isWaySo_87 rfl rfl ?_
            refine x_iconst (v := 1) (pc' := 90) C dL_isWaySo_89 rfl (by decide) ?_
            obtain ⟨z18, ez18⟩ : ∃ z, z = (f_X6_version M N z9.2 z8.1 1) := ⟨_, rfl⟩
            replace hRES := bd hRES z18 ez18
            replace hok := bdP hok z18 ez18
            have hc := c_X6_version (kl k) (kg k) h ad M adN N adE z9.2 z8.1 1
            rw [← ez18] at hc
            refine x_catWV (st := []) (st2 := [.int z18.1]) (pc' := 93) (wcs := [wMa h ad M, wSt (kg k) (ad 0) adN N, wRe (kg k) (ad 5) adE z9.2]) (wrs := []) (wcs' := [wMa h ad M, wSt (kg k) (ad 0) adN N, wRe (kg k) (ad 5) adE z18.2]) C B [wMa h ad M, wSt (kg k) (ad 0) adN N, wRe (kg k) (ad 5) adE z18.2] hc rfl rfl cw_L_14 ok_X6_version rfl (by decide) rfl rfl [0, 1, 2] [0, 1, 2] rfl rfl rfl rfl rfl (Nat.le_of_ble_eq_true rfl) (Nat.zero_le _) (Nat.zero_le _) rfl dL_isWaySo_90 rfl rfl ?_
            refine x_iconst (v := 1) (pc' := 94) C dL_isWaySo_93 rfl (by decide) ?_
            refine x_icmp_ne (tgt := 101) (pc' := 97) C dL_isWaySo_94 (by decide) rfl (fun c19 => ?_) (fun c19 => ?_)
            · rw [if_neg c19] at hRES
              replace hok := hok.2 c19
              refine x_iconst (v := 0) (pc' := 102) C dL_isWaySo_101 rfl (by decide) ?_
              exact join102 z18.2 0 hRES hok
            · rw [if_pos c19] at hRES
              replace hok := hok.1 c19
              refine x_iconst (v := 1) (pc' := 98) C dL_isWaySo_97 rfl (by decide) ?_
              refine x_goto (tgt := 102) C dL_isWaySo_98 (by decide) ?_
              exact join102 z18.2 1 hRES hok
    exact loop60 25 E_55 z2.1 0 y0_55 1 hRES hok
  refine x_icmp_ne (tgt := 54) (pc' := 27) C dL_isWaySo_24 (by decide) rfl (fun c20 => ?_) (fun c20 => ?_)
  · rw [if_neg c20] at hRES
    replace hok := hok.2 c20
    refine x_iconst (v := 0) (pc' := 55) C dL_isWaySo_54 rfl (by decide) ?_
    exact join55 z3.2 0 hRES hok
  · rw [if_pos c20] at hRES
    replace hok := hok.1 c20
    refine x_aload_n (pc' := 28) C dL_isWaySo_27 rfl rfl rfl ?_
    refine x_iload_n (pc' := 29) C dL_isWaySo_28 rfl rfl rfl ?_
    refine x_iload_n (pc' := 30) C dL_isWaySo_29 rfl rfl rfl ?_
    obtain ⟨z21, ez21⟩ : ∃ z, z = (f_X6_way M N z3.2 a2 z1.1) := ⟨_, rfl⟩
    replace hRES := bd hRES z21 ez21
    replace hok := bdP hok z21 ez21
    have hc := c_X6_way (kl k) (kg k) h ad M adN N adE z3.2 a2 z1.1
    rw [← ez21] at hc
    refine x_catWV (st := []) (st2 := [.int z21.1]) (pc' := 33) (wcs := [wMa h ad M, wSt (kg k) (ad 0) adN N, wRe (kg k) (ad 5) adE z3.2]) (wrs := []) (wcs' := [wMa h ad M, wSt (kg k) (ad 0) adN N, wRe (kg k) (ad 5) adE z21.2]) C B [wMa h ad M, wSt (kg k) (ad 0) adN N, wRe (kg k) (ad 5) adE z21.2] hc rfl rfl cw_L_55 ok_X6_way rfl (by decide) rfl rfl [0, 1, 2] [0, 1, 2] rfl rfl rfl rfl rfl (Nat.le_of_ble_eq_true rfl) (Nat.zero_le _) (Nat.zero_le _) rfl dL_isWaySo_30 rfl rfl ?_
    refine x_iload_n (pc' := 34) C dL_isWaySo_33 rfl rfl rfl ?_
    refine x_icmp_ne (tgt := 54) (pc' := 37) C dL_isWaySo_34 (by decide) rfl (fun c22 => ?_) (fun c22 => ?_)
    · rw [if_neg c22] at hRES
      replace hok := hok.2 c22
      refine x_iconst (v := 0) (pc' := 55) C dL_isWaySo_54 rfl (by decide) ?_
      exact join55 z21.2 0 hRES hok
    · rw [if_pos c22] at hRES
      replace hok := hok.1 c22
      refine x_aload_n (pc' := 38) C dL_isWaySo_37 rfl rfl rfl ?_
      refine x_iload_n (pc' := 39) C dL_isWaySo_38 rfl rfl rfl ?_
      refine x_iload_n (pc' := 40) C dL_isWaySo_39 rfl rfl rfl ?_
      refine x_iconst (v := 1) (pc' := 41) C dL_isWaySo_40 rfl (by decide) ?_
      refine x_iadd (pc' := 42) (v := (z1.1 + 1)) C dL_isWaySo_41 rfl rfl ?_
      obtain ⟨z23, ez23⟩ : ∃ z, z = (f_X6_way M N z21.2 a2 (z1.1 + 1)) := ⟨_, rfl⟩
      replace hRES := bd hRES z23 ez23
      replace hok := bdP hok z23 ez23
      have hc := c_X6_way (kl k) (kg k) h ad M adN N adE z21.2 a2 (z1.1 + 1)
      rw [← ez23] at hc
      refine x_catWV (st := []) (st2 := [.int z23.1]) (pc' := 45) (wcs := [wMa h ad M, wSt (kg k) (ad 0) adN N, wRe (kg k) (ad 5) adE z21.2]) (wrs := []) (wcs' := [wMa h ad M, wSt (kg k) (ad 0) adN N, wRe (kg k) (ad 5) adE z23.2]) C B [wMa h ad M, wSt (kg k) (ad 0) adN N, wRe (kg k) (ad 5) adE z23.2] hc rfl rfl cw_L_55 ok_X6_way rfl (by decide) rfl rfl [0, 1, 2] [0, 1, 2] rfl rfl rfl rfl rfl (Nat.le_of_ble_eq_true rfl) (Nat.zero_le _) (Nat.zero_le _) rfl dL_isWaySo_42 rfl rfl ?_
      refine x_bipush (v := (-5)) (pc' := 47) C dL_isWaySo_45 rfl (by decide) ?_
      refine x_icmp_ne (tgt := 54) (pc' := 50) C dL_isWaySo_47 (by decide) rfl (fun c24 => ?_) (fun c24 => ?_)
      · rw [if_neg c24] at hRES
        replace hok := hok.2 c24
        refine x_iconst (v := 0) (pc' := 55) C dL_isWaySo_54 rfl (by decide) ?_
        exact join55 z23.2 0 hRES hok
      · rw [if_pos c24] at hRES
        replace hok := hok.1 c24
        refine x_iconst (v := 1) (pc' := 51) C dL_isWaySo_50 rfl (by decide) ?_
        refine x_goto (tgt := 55) C dL_isWaySo_51 (by decide) ?_
        exact join55 z23.2 1 hRES hok

def j_L_isAskSo_249 (M : CS) (O : CS) (a2 : Int32) (z4 : Int32 × CS) (z9 : Int32 × CS) (z11 : Int32 × CS × CS × HS × CS) (E_249 : CS) (y0_249 : Int32) : Bool × CS × CS × HS × CS := (bind1 (f_X6_undo M z11.2.1 z11.2.2.2.1) (fun z13 => (if y0_249 = 0 then (false, z13.2.1, z11.2.2.1, z13.2.2, E_249) else (if z13.1 < 0 then (false, z13.2.1, z11.2.2.1, z13.2.2, E_249) else (bind1 (f_X6_version M z13.2.1 E_249 a2 6) (fun z16 => (if z16.1 = z9.1 then (bind1 (f_X6_count M z13.2.1 z13.2.2 z16.2 O 1) (fun z18 => (if z18.1 = z4.1 then (true, z13.2.1, z11.2.2.1, z13.2.2, z18.2) else (false, z13.2.1, z11.2.2.1, z13.2.2, z18.2)))) else (false, z13.2.1, z11.2.2.1, z13.2.2, z16.2))))))))
def oj_L_isAskSo_249 (M : CS) (O : CS) (a2 : Int32) (z4 : Int32 × CS) (z9 : Int32 × CS) (z11 : Int32 × CS × CS × HS × CS) (E_249 : CS) (y0_249 : Int32) : Prop := ((o_X6_undo M z11.2.1 z11.2.2.2.1) ∧ (bind1 (f_X6_undo M z11.2.1 z11.2.2.2.1) (fun z13 => ((y0_249 = 0 → True) ∧ (¬ (y0_249 = 0) → ((z13.1 < 0 → True) ∧ (¬ (z13.1 < 0) → (bind1 (f_X6_version M z13.2.1 E_249 a2 6) (fun z16 => ((z16.1 = z9.1 → (bind1 (f_X6_count M z13.2.1 z13.2.2 z16.2 O 1) (fun z18 => ((z18.1 = z4.1 → True) ∧ (¬ (z18.1 = z4.1) → True))))) ∧ (¬ (z16.1 = z9.1) → True)))))))))))
def j_L_isAskSo_239 (M : CS) (O : CS) (a2 : Int32) (z4 : Int32 × CS) (z9 : Int32 × CS) (y0_123 : Int32) (z11 : Int32 × CS × CS × HS × CS) (z29 : Int32 × CS) (y0_239 : Int32) : Bool × CS × CS × HS × CS := (if y0_239 = y0_123 then (j_L_isAskSo_249 M O a2 z4 z9 z11 z29.2 1) else (j_L_isAskSo_249 M O a2 z4 z9 z11 z29.2 0))
def oj_L_isAskSo_239 (M : CS) (O : CS) (a2 : Int32) (z4 : Int32 × CS) (z9 : Int32 × CS) (y0_123 : Int32) (z11 : Int32 × CS × CS × HS × CS) (z29 : Int32 × CS) (y0_239 : Int32) : Prop := ((y0_239 = y0_123 → (oj_L_isAskSo_249 M O a2 z4 z9 z11 z29.2 1)) ∧ (¬ (y0_239 = y0_123) → (oj_L_isAskSo_249 M O a2 z4 z9 z11 z29.2 0)))
def j_L_isAskSo_220 (M : CS) (O : CS) (a2 : Int32) (z4 : Int32 × CS) (z5 : Int32 × CS) (z9 : Int32 × CS) (y0_123 : Int32) (z11 : Int32 × CS × CS × HS × CS) (z27 : Int32 × CS) (y2_220 : Int32) : Bool × CS × CS × HS × CS := (if z27.1 = (z5.1 + y2_220) then (bind1 (f_X6_version M z11.2.1 z27.2 a2 3) (fun z29 => (if z29.1 = a2 then (j_L_isAskSo_239 M O a2 z4 z9 y0_123 z11 z29 1) else (j_L_isAskSo_239 M O a2 z4 z9 y0_123 z11 z29 0)))) else (j_L_isAskSo_249 M O a2 z4 z9 z11 z27.2 0))
def oj_L_isAskSo_220 (M : CS) (O : CS) (a2 : Int32) (z4 : Int32 × CS) (z5 : Int32 × CS) (z9 : Int32 × CS) (y0_123 : Int32) (z11 : Int32 × CS × CS × HS × CS) (z27 : Int32 × CS) (y2_220 : Int32) : Prop := ((z27.1 = (z5.1 + y2_220) → (bind1 (f_X6_version M z11.2.1 z27.2 a2 3) (fun z29 => ((z29.1 = a2 → (oj_L_isAskSo_239 M O a2 z4 z9 y0_123 z11 z29 1)) ∧ (¬ (z29.1 = a2) → (oj_L_isAskSo_239 M O a2 z4 z9 y0_123 z11 z29 0)))))) ∧ (¬ (z27.1 = (z5.1 + y2_220)) → (oj_L_isAskSo_249 M O a2 z4 z9 z11 z27.2 0)))
def j_L_isAskSo_187 (M : CS) (O : CS) (a2 : Int32) (z3 : Int32 × CS) (z4 : Int32 × CS) (z5 : Int32 × CS) (z6 : Int32 × CS) (y0_69 : Int32) (z9 : Int32 × CS) (y0_123 : Int32) (z11 : Int32 × CS × CS × HS × CS) (z25 : Int32 × CS) (y2_187 : Int32) : Bool × CS × CS × HS × CS := (if z25.1 = (z6.1 + y2_187) then (bind1 (f_X6_count M z11.2.1 z11.2.2.2.1 z25.2 O 8) (fun z27 => (if y0_123 = 0 then (j_L_isAskSo_220 M O a2 z4 z5 z9 y0_123 z11 z27 0) else (if y0_69 = 0 then (if a2 = z3.1 then (j_L_isAskSo_220 M O a2 z4 z5 z9 y0_123 z11 z27 0) else (j_L_isAskSo_220 M O a2 z4 z5 z9 y0_123 z11 z27 1)) else (j_L_isAskSo_220 M O a2 z4 z5 z9 y0_123 z11 z27 0))))) else (j_L_isAskSo_249 M O a2 z4 z9 z11 z25.2 0))
def oj_L_isAskSo_187 (M : CS) (O : CS) (a2 : Int32) (z3 : Int32 × CS) (z4 : Int32 × CS) (z5 : Int32 × CS) (z6 : Int32 × CS) (y0_69 : Int32) (z9 : Int32 × CS) (y0_123 : Int32) (z11 : Int32 × CS × CS × HS × CS) (z25 : Int32 × CS) (y2_187 : Int32) : Prop := ((z25.1 = (z6.1 + y2_187) → (bind1 (f_X6_count M z11.2.1 z11.2.2.2.1 z25.2 O 8) (fun z27 => ((y0_123 = 0 → (oj_L_isAskSo_220 M O a2 z4 z5 z9 y0_123 z11 z27 0)) ∧ (¬ (y0_123 = 0) → ((y0_69 = 0 → ((a2 = z3.1 → (oj_L_isAskSo_220 M O a2 z4 z5 z9 y0_123 z11 z27 0)) ∧ (¬ (a2 = z3.1) → (oj_L_isAskSo_220 M O a2 z4 z5 z9 y0_123 z11 z27 1)))) ∧ (¬ (y0_69 = 0) → (oj_L_isAskSo_220 M O a2 z4 z5 z9 y0_123 z11 z27 0)))))))) ∧ (¬ (z25.1 = (z6.1 + y2_187)) → (oj_L_isAskSo_249 M O a2 z4 z9 z11 z25.2 0)))
def j_L_isAskSo_165 (M : CS) (O : CS) (a2 : Int32) (z3 : Int32 × CS) (z4 : Int32 × CS) (z5 : Int32 × CS) (z6 : Int32 × CS) (y0_69 : Int32) (z9 : Int32 × CS) (y0_123 : Int32) (z11 : Int32 × CS × CS × HS × CS) (z23 : Int32 × CS) (y2_165 : Int32) : Bool × CS × CS × HS × CS := (if z23.1 = (z4.1 + y2_165) then (bind1 (f_X6_count M z11.2.1 z11.2.2.2.1 z23.2 O 9) (fun z25 => (if y0_69 = 0 then (j_L_isAskSo_187 M O a2 z3 z4 z5 z6 y0_69 z9 y0_123 z11 z25 0) else (j_L_isAskSo_187 M O a2 z3 z4 z5 z6 y0_69 z9 y0_123 z11 z25 1)))) else (j_L_isAskSo_249 M O a2 z4 z9 z11 z23.2 0))
def oj_L_isAskSo_165 (M : CS) (O : CS) (a2 : Int32) (z3 : Int32 × CS) (z4 : Int32 × CS) (z5 : Int32 × CS) (z6 : Int32 × CS) (y0_69 : Int32) (z9 : Int32 × CS) (y0_123 : Int32) (z11 : Int32 × CS × CS × HS × CS) (z23 : Int32 × CS) (y2_165 : Int32) : Prop := ((z23.1 = (z4.1 + y2_165) → (bind1 (f_X6_count M z11.2.1 z11.2.2.2.1 z23.2 O 9) (fun z25 => ((y0_69 = 0 → (oj_L_isAskSo_187 M O a2 z3 z4 z5 z6 y0_69 z9 y0_123 z11 z25 0)) ∧ (¬ (y0_69 = 0) → (oj_L_isAskSo_187 M O a2 z3 z4 z5 z6 y0_69 z9 y0_123 z11 z25 1)))))) ∧ (¬ (z23.1 = (z4.1 + y2_165)) → (oj_L_isAskSo_249 M O a2 z4 z9 z11 z23.2 0)))
def j_L_isAskSo_123 (M : CS) (N : CS) (F : CS) (Q : HS) (O : CS) (a2 : Int32) (z1 : Int32 × CS) (z3 : Int32 × CS) (z4 : Int32 × CS) (z5 : Int32 × CS) (z6 : Int32 × CS) (y0_69 : Int32) (z9 : Int32 × CS) (E_123 : CS) (y0_123 : Int32) : Bool × CS × CS × HS × CS := (bind1 (f_X6_ask M N F Q E_123 a2) (fun z11 => (if z11.1 = z1.1 then (bind1 (f_X6_version M z11.2.1 z11.2.2.2.2 a2 6) (fun z21 => (if z21.1 = (z9.1 + 1) then (bind1 (f_X6_count M z11.2.1 z11.2.2.2.1 z21.2 O 1) (fun z23 => (if y0_69 = 0 then (j_L_isAskSo_165 M O a2 z3 z4 z5 z6 y0_69 z9 y0_123 z11 z23 0) else (j_L_isAskSo_165 M O a2 z3 z4 z5 z6 y0_69 z9 y0_123 z11 z23 1)))) else (j_L_isAskSo_249 M O a2 z4 z9 z11 z21.2 0)))) else (j_L_isAskSo_249 M O a2 z4 z9 z11 z11.2.2.2.2 0))))
def oj_L_isAskSo_123 (M : CS) (N : CS) (F : CS) (Q : HS) (O : CS) (a2 : Int32) (z1 : Int32 × CS) (z3 : Int32 × CS) (z4 : Int32 × CS) (z5 : Int32 × CS) (z6 : Int32 × CS) (y0_69 : Int32) (z9 : Int32 × CS) (E_123 : CS) (y0_123 : Int32) : Prop := ((o_X6_ask M N F Q E_123 a2) ∧ (bind1 (f_X6_ask M N F Q E_123 a2) (fun z11 => ((z11.1 = z1.1 → (bind1 (f_X6_version M z11.2.1 z11.2.2.2.2 a2 6) (fun z21 => ((z21.1 = (z9.1 + 1) → (bind1 (f_X6_count M z11.2.1 z11.2.2.2.1 z21.2 O 1) (fun z23 => ((y0_69 = 0 → (oj_L_isAskSo_165 M O a2 z3 z4 z5 z6 y0_69 z9 y0_123 z11 z23 0)) ∧ (¬ (y0_69 = 0) → (oj_L_isAskSo_165 M O a2 z3 z4 z5 z6 y0_69 z9 y0_123 z11 z23 1)))))) ∧ (¬ (z21.1 = (z9.1 + 1)) → (oj_L_isAskSo_249 M O a2 z4 z9 z11 z21.2 0)))))) ∧ (¬ (z11.1 = z1.1) → (oj_L_isAskSo_249 M O a2 z4 z9 z11 z11.2.2.2.2 0))))))
def j_L_isAskSo_69 (M : CS) (N : CS) (F : CS) (Q : HS) (O : CS) (a2 : Int32) (z1 : Int32 × CS) (z3 : Int32 × CS) (z4 : Int32 × CS) (z5 : Int32 × CS) (z6 : Int32 × CS) (z7 : Int32 × CS) (z8 : Int32 × CS) (y0_69 : Int32) : Bool × CS × CS × HS × CS := (bind1 (f_X6_version M N z8.2 a2 6) (fun z9 => (if y0_69 = 0 then (if z7.1 = 1 then (j_L_isAskSo_123 M N F Q O a2 z1 z3 z4 z5 z6 y0_69 z9 z9.2 1) else (if a2 = z3.1 then (j_L_isAskSo_123 M N F Q O a2 z1 z3 z4 z5 z6 y0_69 z9 z9.2 1) else (if z7.1 = 2 then (bind1 (f_X6_version M N z9.2 z3.1 6) (fun z41 => (if z41.1 < (z9.1 + 1) then (j_L_isAskSo_123 M N F Q O a2 z1 z3 z4 z5 z6 y0_69 z9 z41.2 1) else (j_L_isAskSo_123 M N F Q O a2 z1 z3 z4 z5 z6 y0_69 z9 z41.2 0)))) else (j_L_isAskSo_123 M N F Q O a2 z1 z3 z4 z5 z6 y0_69 z9 z9.2 0)))) else (j_L_isAskSo_123 M N F Q O a2 z1 z3 z4 z5 z6 y0_69 z9 z9.2 1))))
def oj_L_isAskSo_69 (M : CS) (N : CS) (F : CS) (Q : HS) (O : CS) (a2 : Int32) (z1 : Int32 × CS) (z3 : Int32 × CS) (z4 : Int32 × CS) (z5 : Int32 × CS) (z6 : Int32 × CS) (z7 : Int32 × CS) (z8 : Int32 × CS) (y0_69 : Int32) : Prop := (bind1 (f_X6_version M N z8.2 a2 6) (fun z9 => ((y0_69 = 0 → ((z7.1 = 1 → (oj_L_isAskSo_123 M N F Q O a2 z1 z3 z4 z5 z6 y0_69 z9 z9.2 1)) ∧ (¬ (z7.1 = 1) → ((a2 = z3.1 → (oj_L_isAskSo_123 M N F Q O a2 z1 z3 z4 z5 z6 y0_69 z9 z9.2 1)) ∧ (¬ (a2 = z3.1) → ((z7.1 = 2 → (bind1 (f_X6_version M N z9.2 z3.1 6) (fun z41 => ((z41.1 < (z9.1 + 1) → (oj_L_isAskSo_123 M N F Q O a2 z1 z3 z4 z5 z6 y0_69 z9 z41.2 1)) ∧ (¬ (z41.1 < (z9.1 + 1)) → (oj_L_isAskSo_123 M N F Q O a2 z1 z3 z4 z5 z6 y0_69 z9 z41.2 0)))))) ∧ (¬ (z7.1 = 2) → (oj_L_isAskSo_123 M N F Q O a2 z1 z3 z4 z5 z6 y0_69 z9 z9.2 0)))))))) ∧ (¬ (y0_69 = 0) → (oj_L_isAskSo_123 M N F Q O a2 z1 z3 z4 z5 z6 y0_69 z9 z9.2 1)))))
def f_L_isAskSo (M : CS) (N : CS) (F : CS) (Q : HS) (E : CS) (O : CS) (a2 : Int32) : Bool × CS × CS × HS × CS := (bind1 (f_X6_version M N E a2 9) (fun z1 => (bind1 (f_X6_version M N z1.2 a2 4) (fun z2 => (bind1 (f_X6_version M N z2.2 a2 3) (fun z3 => (bind1 (f_X6_count M N Q z3.2 O 1) (fun z4 => (bind1 (f_X6_count M N Q z4.2 O 8) (fun z5 => (bind1 (f_X6_count M N Q z5.2 O 9) (fun z6 => (bind1 (f_X6_count M N Q z6.2 O 10) (fun z7 => (bind1 (f_X6_count M N Q z7.2 O 11) (fun z8 => (if z8.1 < z2.1 then (j_L_isAskSo_69 M N F Q O a2 z1 z3 z4 z5 z6 z7 z8 1) else (j_L_isAskSo_69 M N F Q O a2 z1 z3 z4 z5 z6 z7 z8 0))))))))))))))))))
def o_L_isAskSo (M : CS) (N : CS) (F : CS) (Q : HS) (E : CS) (O : CS) (a2 : Int32) : Prop := (bind1 (f_X6_version M N E a2 9) (fun z1 => (bind1 (f_X6_version M N z1.2 a2 4) (fun z2 => (bind1 (f_X6_version M N z2.2 a2 3) (fun z3 => (bind1 (f_X6_count M N Q z3.2 O 1) (fun z4 => (bind1 (f_X6_count M N Q z4.2 O 8) (fun z5 => (bind1 (f_X6_count M N Q z5.2 O 9) (fun z6 => (bind1 (f_X6_count M N Q z6.2 O 10) (fun z7 => (bind1 (f_X6_count M N Q z7.2 O 11) (fun z8 => ((z8.1 < z2.1 → (oj_L_isAskSo_69 M N F Q O a2 z1 z3 z4 z5 z6 z7 z8 1)) ∧ (¬ (z8.1 < z2.1) → (oj_L_isAskSo_69 M N F Q O a2 z1 z3 z4 z5 z6 z7 z8 0)))))))))))))))))))
set_option maxRecDepth 100000 in
set_option maxHeartbeats 8000000 in
theorem c_L_isAskSo (l : Launch) (g : GT) (h : Nat) (ad : Nat → Nat) (M : CS) (adN : Nat → Nat) (N : CS) (adF : Nat → Nat) (F : CS) (adQ : Nat → Nat) (Q : HS) (adE : Nat → Nat) (E : CS) (adO : Nat → Nat) (O : CS) (a2 : Int32) (hok : o_L_isAskSo M N F Q E O a2) : CW l yL_isAskSo (.code yL_isAskSo cL_isAskSo 14 (some .boolean)) 6 g [.ref h, .int a2] (cat [wMa h ad M, wSt g (ad 0) adN N, wSt g (ad 1) adF F, wHi g (ad 4) adQ Q, wRe g (ad 5) adE E, wOr g (ad 6) adO O]) (some (.int (bI (f_L_isAskSo M N F Q E O a2).1))) (cat [wMa h ad M, wSt g (ad 0) adN (f_L_isAskSo M N F Q E O a2).2.1, wSt g (ad 1) adF (f_L_isAskSo M N F Q E O a2).2.2.1, wHi g (ad 4) adQ (f_L_isAskSo M N F Q E O a2).2.2.2.1, wRe g (ad 5) adE (f_L_isAskSo M N F Q E O a2).2.2.2.2, wOr g (ad 6) adO O]) := by
  obtain ⟨RES, hRES⟩ : ∃ z, z = (f_L_isAskSo M N F Q E O a2) := ⟨_, rfl⟩
  rw [← hRES]
  unfold f_L_isAskSo at hRES
  unfold o_L_isAskSo at hok
  refine CWx.of (nL := 14) (ret := (some .boolean)) (own := RL) (cc := cL_isAskSo) rfl (by decide) rfl (List.forall_mem_cons.mpr ⟨rfl, (List.forall_mem_cons.mpr ⟨rfl, (fun _ h => absurd h List.not_mem_nil)⟩)⟩) (Nat.le_of_ble_eq_true rfl) ?_
  intro k C B hin hkl hkg
  subst hkl; subst hkg
  refine x_loc2 (L' := [some (.ref h), some (.int a2), none, none, none, none, none, none, none, none, none, none, none, none]) rfl ?_
  refine x_aload_n (pc' := 1) C dL_isAskSo_0 rfl rfl rfl ?_
  refine x_iload_n (pc' := 2) C dL_isAskSo_1 rfl rfl rfl ?_
  refine x_bipush (v := 9) (pc' := 4) C dL_isAskSo_2 rfl (by decide) ?_
  obtain ⟨z1, ez1⟩ : ∃ z, z = (f_X6_version M N E a2 9) := ⟨_, rfl⟩
  replace hRES := bd hRES z1 ez1
  replace hok := bdP hok z1 ez1
  have hc := c_X6_version (kl k) (kg k) h ad M adN N adE E a2 9
  rw [← ez1] at hc
  refine x_catWV (st := []) (st2 := [.int z1.1]) (pc' := 7) (wcs := [wMa h ad M, wSt (kg k) (ad 0) adN N, wRe (kg k) (ad 5) adE E]) (wrs := [wSt (kg k) (ad 1) adF F, wHi (kg k) (ad 4) adQ Q, wOr (kg k) (ad 6) adO O]) (wcs' := [wMa h ad M, wSt (kg k) (ad 0) adN N, wRe (kg k) (ad 5) adE z1.2]) C B [wMa h ad M, wSt (kg k) (ad 0) adN N, wSt (kg k) (ad 1) adF F, wHi (kg k) (ad 4) adQ Q, wRe (kg k) (ad 5) adE z1.2, wOr (kg k) (ad 6) adO O] hc rfl rfl cw_L_14 ok_X6_version rfl (by decide) rfl rfl [2, 3, 5, 0, 1, 4] [3, 4, 0, 1, 5, 2] rfl rfl rfl rfl rfl (Nat.le_of_ble_eq_true rfl) (Nat.zero_le _) (Nat.zero_le _) rfl dL_isAskSo_4 rfl rfl ?_
  refine x_istore_n (pc' := 8) (L' := [some (.ref h), some (.int a2), some (.int z1.1), none, none, none, none, none, none, none, none, none, none, none]) C dL_isAskSo_7 rfl rfl (Nat.le_of_ble_eq_true rfl) rfl ?_
  refine x_aload_n (pc' := 9) C dL_isAskSo_8 rfl rfl rfl ?_
  refine x_iload_n (pc' := 10) C dL_isAskSo_9 rfl rfl rfl ?_
  refine x_iconst (v := 4) (pc' := 11) C dL_isAskSo_10 rfl (by decide) ?_
  obtain ⟨z2, ez2⟩ : ∃ z, z = (f_X6_version M N z1.2 a2 4) := ⟨_, rfl⟩
  replace hRES := bd hRES z2 ez2
  replace hok := bdP hok z2 ez2
  have hc := c_X6_version (kl k) (kg k) h ad M adN N adE z1.2 a2 4
  rw [← ez2] at hc
  refine x_catWV (st := []) (st2 := [.int z2.1]) (pc' := 14) (wcs := [wMa h ad M, wSt (kg k) (ad 0) adN N, wRe (kg k) (ad 5) adE z1.2]) (wrs := [wSt (kg k) (ad 1) adF F, wHi (kg k) (ad 4) adQ Q, wOr (kg k) (ad 6) adO O]) (wcs' := [wMa h ad M, wSt (kg k) (ad 0) adN N, wRe (kg k) (ad 5) adE z2.2]) C B [wMa h ad M, wSt (kg k) (ad 0) adN N, wSt (kg k) (ad 1) adF F, wHi (kg k) (ad 4) adQ Q, wRe (kg k) (ad 5) adE z2.2, wOr (kg k) (ad 6) adO O] hc rfl rfl cw_L_14 ok_X6_version rfl (by decide) rfl rfl [2, 3, 5, 0, 1, 4] [3, 4, 0, 1, 5, 2] rfl rfl rfl rfl rfl (Nat.le_of_ble_eq_true rfl) (Nat.zero_le _) (Nat.zero_le _) rfl dL_isAskSo_11 rfl rfl ?_
  refine x_istore_n (pc' := 15) (L' := [some (.ref h), some (.int a2), some (.int z1.1), some (.int z2.1), none, none, none, none, none, none, none, none, none, none]) C dL_isAskSo_14 rfl rfl (Nat.le_of_ble_eq_true rfl) rfl ?_
  refine x_aload_n (pc' := 16) C dL_isAskSo_15 rfl rfl rfl ?_
  refine x_iload_n (pc' := 17) C dL_isAskSo_16 rfl rfl rfl ?_
  refine x_iconst (v := 3) (pc' := 18) C dL_isAskSo_17 rfl (by decide) ?_
  obtain ⟨z3, ez3⟩ : ∃ z, z = (f_X6_version M N z2.2 a2 3) := ⟨_, rfl⟩
  replace hRES := bd hRES z3 ez3
  replace hok := bdP hok z3 ez3
  have hc := c_X6_version (kl k) (kg k) h ad M adN N adE z2.2 a2 3
  rw [← ez3] at hc
  refine x_catWV (st := []) (st2 := [.int z3.1]) (pc' := 21) (wcs := [wMa h ad M, wSt (kg k) (ad 0) adN N, wRe (kg k) (ad 5) adE z2.2]) (wrs := [wSt (kg k) (ad 1) adF F, wHi (kg k) (ad 4) adQ Q, wOr (kg k) (ad 6) adO O]) (wcs' := [wMa h ad M, wSt (kg k) (ad 0) adN N, wRe (kg k) (ad 5) adE z3.2]) C B [wMa h ad M, wSt (kg k) (ad 0) adN N, wSt (kg k) (ad 1) adF F, wHi (kg k) (ad 4) adQ Q, wRe (kg k) (ad 5) adE z3.2, wOr (kg k) (ad 6) adO O] hc rfl rfl cw_L_14 ok_X6_version rfl (by decide) rfl rfl [2, 3, 5, 0, 1, 4] [3, 4, 0, 1, 5, 2] rfl rfl rfl rfl rfl (Nat.le_of_ble_eq_true rfl) (Nat.zero_le _) (Nat.zero_le _) rfl dL_isAskSo_18 rfl rfl ?_
  refine x_istore (pc' := 23) (L' := [some (.ref h), some (.int a2), some (.int z1.1), some (.int z2.1), some (.int z3.1), none, none, none, none, none, none, none, none, none]) C dL_isAskSo_21 rfl (Nat.le_of_ble_eq_true rfl) rfl ?_
  refine x_aload_n (pc' := 24) C dL_isAskSo_23 rfl rfl rfl ?_
  refine x_iconst (v := 1) (pc' := 25) C dL_isAskSo_24 rfl (by decide) ?_
  obtain ⟨z4, ez4⟩ : ∃ z, z = (f_X6_count M N Q z3.2 O 1) := ⟨_, rfl⟩
  replace hRES := bd hRES z4 ez4
  replace hok := bdP hok z4 ez4
  have hc := c_X6_count (kl k) (kg k) h ad M adN N adQ Q adE z3.2 adO O 1
  rw [← ez4] at hc
  refine x_catWV (st := []) (st2 := [.int z4.1]) (pc' := 28) (wcs := [wMa h ad M, wSt (kg k) (ad 0) adN N, wHi (kg k) (ad 4) adQ Q, wRe (kg k) (ad 5) adE z3.2, wOr (kg k) (ad 6) adO O]) (wrs := [wSt (kg k) (ad 1) adF F]) (wcs' := [wMa h ad M, wSt (kg k) (ad 0) adN N, wHi (kg k) (ad 4) adQ Q, wRe (kg k) (ad 5) adE z4.2, wOr (kg k) (ad 6) adO O]) C B [wMa h ad M, wSt (kg k) (ad 0) adN N, wSt (kg k) (ad 1) adF F, wHi (kg k) (ad 4) adQ Q, wRe (kg k) (ad 5) adE z4.2, wOr (kg k) (ad 6) adO O] hc rfl rfl cw_L_23 ok_X6_count rfl (by decide) rfl rfl [2, 0, 1, 3, 4, 5] [1, 2, 0, 3, 4, 5] rfl rfl rfl rfl rfl (Nat.le_of_ble_eq_true rfl) (Nat.zero_le _) (Nat.zero_le _) rfl dL_isAskSo_25 rfl rfl ?_
  refine x_istore (pc' := 30) (L' := [some (.ref h), some (.int a2), some (.int z1.1), some (.int z2.1), some (.int z3.1), some (.int z4.1), none, none, none, none, none, none, none, none]) C dL_isAskSo_28 rfl (Nat.le_of_ble_eq_true rfl) rfl ?_
  refine x_aload_n (pc' := 31) C dL_isAskSo_30 rfl rfl rfl ?_
  refine x_bipush (v := 8) (pc' := 33) C dL_isAskSo_31 rfl (by decide) ?_
  obtain ⟨z5, ez5⟩ : ∃ z, z = (f_X6_count M N Q z4.2 O 8) := ⟨_, rfl⟩
  replace hRES := bd hRES z5 ez5
  replace hok := bdP hok z5 ez5
  have hc := c_X6_count (kl k) (kg k) h ad M adN N adQ Q adE z4.2 adO O 8
  rw [← ez5] at hc
  refine x_catWV (st := []) (st2 := [.int z5.1]) (pc' := 36) (wcs := [wMa h ad M, wSt (kg k) (ad 0) adN N, wHi (kg k) (ad 4) adQ Q, wRe (kg k) (ad 5) adE z4.2, wOr (kg k) (ad 6) adO O]) (wrs := [wSt (kg k) (ad 1) adF F]) (wcs' := [wMa h ad M, wSt (kg k) (ad 0) adN N, wHi (kg k) (ad 4) adQ Q, wRe (kg k) (ad 5) adE z5.2, wOr (kg k) (ad 6) adO O]) C B [wMa h ad M, wSt (kg k) (ad 0) adN N, wSt (kg k) (ad 1) adF F, wHi (kg k) (ad 4) adQ Q, wRe (kg k) (ad 5) adE z5.2, wOr (kg k) (ad 6) adO O] hc rfl rfl cw_L_23 ok_X6_count rfl (by decide) rfl rfl [2, 0, 1, 3, 4, 5] [1, 2, 0, 3, 4, 5] rfl rfl rfl rfl rfl (Nat.le_of_ble_eq_true rfl) (Nat.zero_le _) (Nat.zero_le _) rfl dL_isAskSo_33 rfl rfl ?_
  refine x_istore (pc' := 38) (L' := [some (.ref h), some (.int a2), some (.int z1.1), some (.int z2.1), some (.int z3.1), some (.int z4.1), some (.int z5.1), none, none, none, none, none, none, none]) C dL_isAskSo_36 rfl (Nat.le_of_ble_eq_true rfl) rfl ?_
  refine x_aload_n (pc' := 39) C dL_isAskSo_38 rfl rfl rfl ?_
  refine x_bipush (v := 9) (pc' := 41) C dL_isAskSo_39 rfl (by decide) ?_
  obtain ⟨z6, ez6⟩ : ∃ z, z = (f_X6_count M N Q z5.2 O 9) := ⟨_, rfl⟩
  replace hRES := bd hRES z6 ez6
  replace hok := bdP hok z6 ez6
  have hc := c_X6_count (kl k) (kg k) h ad M adN N adQ Q adE z5.2 adO O 9
  rw [← ez6] at hc
  refine x_catWV (st := []) (st2 := [.int z6.1]) (pc' := 44) (wcs := [wMa h ad M, wSt (kg k) (ad 0) adN N, wHi (kg k) (ad 4) adQ Q, wRe (kg k) (ad 5) adE z5.2, wOr (kg k) (ad 6) adO O]) (wrs := [wSt (kg k) (ad 1) adF F]) (wcs' := [wMa h ad M, wSt (kg k) (ad 0) adN N, wHi (kg k) (ad 4) adQ Q, wRe (kg k) (ad 5) adE z6.2, wOr (kg k) (ad 6) adO O]) C B [wMa h ad M, wSt (kg k) (ad 0) adN N, wSt (kg k) (ad 1) adF F, wHi (kg k) (ad 4) adQ Q, wRe (kg k) (ad 5) adE z6.2, wOr (kg k) (ad 6) adO O] hc rfl rfl cw_L_23 ok_X6_count rfl (by decide) rfl rfl [2, 0, 1, 3, 4, 5] [1, 2, 0, 3, 4, 5] rfl rfl rfl rfl rfl (Nat.le_of_ble_eq_true rfl) (Nat.zero_le _) (Nat.zero_le _) rfl dL_isAskSo_41 rfl rfl ?_
  refine x_istore (pc' := 46) (L' := [some (.ref h), some (.int a2), some (.int z1.1), some (.int z2.1), some (.int z3.1), some (.int z4.1), some (.int z5.1), some (.int z6.1), none, none, none, none, none, none]) C dL_isAskSo_44 rfl (Nat.le_of_ble_eq_true rfl) rfl ?_
  refine x_aload_n (pc' := 47) C dL_isAskSo_46 rfl rfl rfl ?_
  refine x_bipush (v := 10) (pc' := 49) C dL_isAskSo_47 rfl (by decide) ?_
  obtain ⟨z7, ez7⟩ : ∃ z, z = (f_X6_count M N Q z6.2 O 10) := ⟨_, rfl⟩
  replace hRES := bd hRES z7 ez7
  replace hok := bdP hok z7 ez7
  have hc := c_X6_count (kl k) (kg k) h ad M adN N adQ Q adE z6.2 adO O 10
  rw [← ez7] at hc
  refine x_catWV (st := []) (st2 := [.int z7.1]) (pc' := 52) (wcs := [wMa h ad M, wSt (kg k) (ad 0) adN N, wHi (kg k) (ad 4) adQ Q, wRe (kg k) (ad 5) adE z6.2, wOr (kg k) (ad 6) adO O]) (wrs := [wSt (kg k) (ad 1) adF F]) (wcs' := [wMa h ad M, wSt (kg k) (ad 0) adN N, wHi (kg k) (ad 4) adQ Q, wRe (kg k) (ad 5) adE z7.2, wOr (kg k) (ad 6) adO O]) C B [wMa h ad M, wSt (kg k) (ad 0) adN N, wSt (kg k) (ad 1) adF F, wHi (kg k) (ad 4) adQ Q, wRe (kg k) (ad 5) adE z7.2, wOr (kg k) (ad 6) adO O] hc rfl rfl cw_L_23 ok_X6_count rfl (by decide) rfl rfl [2, 0, 1, 3, 4, 5] [1, 2, 0, 3, 4, 5] rfl rfl rfl rfl rfl (Nat.le_of_ble_eq_true rfl) (Nat.zero_le _) (Nat.zero_le _) rfl dL_isAskSo_49 rfl rfl ?_
  refine x_istore (pc' := 54) (L' := [some (.ref h), some (.int a2), some (.int z1.1), some (.int z2.1), some (.int z3.1), some (.int z4.1), some (.int z5.1), some (.int z6.1), some (.int z7.1), none, none, none, none, none]) C dL_isAskSo_52 rfl (Nat.le_of_ble_eq_true rfl) rfl ?_
  refine x_iload_n (pc' := 55) C dL_isAskSo_54 rfl rfl rfl ?_
  refine x_aload_n (pc' := 56) C dL_isAskSo_55 rfl rfl rfl ?_
  refine x_bipush (v := 11) (pc' := 58) C dL_isAskSo_56 rfl (by decide) ?_
  obtain ⟨z8, ez8⟩ : ∃ z, z = (f_X6_count M N Q z7.2 O 11) := ⟨_, rfl⟩
  replace hRES := bd hRES z8 ez8
  replace hok := bdP hok z8 ez8
  have hc := c_X6_count (kl k) (kg k) h ad M adN N adQ Q adE z7.2 adO O 11
  rw [← ez8] at hc
  refine x_catWV (st := [.int z2.1]) (st2 := [.int z8.1, .int z2.1]) (pc' := 61) (wcs := [wMa h ad M, wSt (kg k) (ad 0) adN N, wHi (kg k) (ad 4) adQ Q, wRe (kg k) (ad 5) adE z7.2, wOr (kg k) (ad 6) adO O]) (wrs := [wSt (kg k) (ad 1) adF F]) (wcs' := [wMa h ad M, wSt (kg k) (ad 0) adN N, wHi (kg k) (ad 4) adQ Q, wRe (kg k) (ad 5) adE z8.2, wOr (kg k) (ad 6) adO O]) C B [wMa h ad M, wSt (kg k) (ad 0) adN N, wSt (kg k) (ad 1) adF F, wHi (kg k) (ad 4) adQ Q, wRe (kg k) (ad 5) adE z8.2, wOr (kg k) (ad 6) adO O] hc rfl rfl cw_L_23 ok_X6_count rfl (by decide) rfl rfl [2, 0, 1, 3, 4, 5] [1, 2, 0, 3, 4, 5] rfl rfl rfl rfl rfl (Nat.le_of_ble_eq_true rfl) (Nat.zero_le _) (Nat.zero_le _) rfl dL_isAskSo_58 rfl rfl ?_
  have join69 : ∀ (y0_69 : Int32), RES = j_L_isAskSo_69 M N F Q O a2 z1 z3 z4 z5 z6 z7 z8 y0_69 → oj_L_isAskSo_69 M N F Q O a2 z1 z3 z4 z5 z6 z7 z8 y0_69 → X k 0 0 (cat [wMa h ad M, wSt (kg k) (ad 0) adN N, wSt (kg k) (ad 1) adF F, wHi (kg k) (ad 4) adQ Q, wRe (kg k) (ad 5) adE z8.2, wOr (kg k) (ad 6) adO O]) 69 [some (.ref h), some (.int a2), some (.int z1.1), none, some (.int z3.1), some (.int z4.1), some (.int z5.1), some (.int z6.1), some (.int z7.1), none, none, none, none, none] [.int y0_69] := by
    intro y0_69 hRES hok
    unfold j_L_isAskSo_69 at hRES
    unfold oj_L_isAskSo_69 at hok
    refine x_istore (pc' := 71) (L' := [some (.ref h), some (.int a2), some (.int z1.1), none, some (.int z3.1), some (.int z4.1), some (.int z5.1), some (.int z6.1), some (.int z7.1), some (.int y0_69), none, none, none, none]) C dL_isAskSo_69 rfl (Nat.le_of_ble_eq_true rfl) rfl ?_
    refine x_aload_n (pc' := 72) C dL_isAskSo_71 rfl rfl rfl ?_
    refine x_iload_n (pc' := 73) C dL_isAskSo_72 rfl rfl rfl ?_
    refine x_bipush (v := 6) (pc' := 75) C dL_isAskSo_73 rfl (by decide) ?_
    obtain ⟨z9, ez9⟩ : ∃ z, z = (f_X6_version M N z8.2 a2 6) := ⟨_, rfl⟩
    replace hRES := bd hRES z9 ez9
    replace hok := bdP hok z9 ez9
    have hc := c_X6_version (kl k) (kg k) h ad M adN N adE z8.2 a2 6
    rw [← ez9] at hc
    refine x_catWV (st := []) (st2 := [.int z9.1]) (pc' := 78) (wcs := [wMa h ad M, wSt (kg k) (ad 0) adN N, wRe (kg k) (ad 5) adE z8.2]) (wrs := [wSt (kg k) (ad 1) adF F, wHi (kg k) (ad 4) adQ Q, wOr (kg k) (ad 6) adO O]) (wcs' := [wMa h ad M, wSt (kg k) (ad 0) adN N, wRe (kg k) (ad 5) adE z9.2]) C B [wMa h ad M, wSt (kg k) (ad 0) adN N, wSt (kg k) (ad 1) adF F, wHi (kg k) (ad 4) adQ Q, wRe (kg k) (ad 5) adE z9.2, wOr (kg k) (ad 6) adO O] hc rfl rfl cw_L_14 ok_X6_version rfl (by decide) rfl rfl [2, 3, 5, 0, 1, 4] [3, 4, 0, 1, 5, 2] rfl rfl rfl rfl rfl (Nat.le_of_ble_eq_true rfl) (Nat.zero_le _) (Nat.zero_le _) rfl dL_isAskSo_75 rfl rfl ?_
    refine x_istore (pc' := 80) (L' := [some (.ref h), some (.int a2), some (.int z1.1), none, some (.int z3.1), some (.int z4.1), some (.int z5.1), some (.int z6.1), some (.int z7.1), some (.int y0_69), some (.int z9.1), none, none, none]) C dL_isAskSo_78 rfl (Nat.le_of_ble_eq_true rfl) rfl ?_
    refine x_iload (pc' := 82) C dL_isAskSo_80 rfl rfl ?_
    have join123 : ∀ (E_123 : CS) (y0_123 : Int32), RES = j_L_isAskSo_123 M N F Q O a2 z1 z3 z4 z5 z6 y0_69 z9 E_123 y0_123 → oj_L_isAskSo_123 M N F Q O a2 z1 z3 z4 z5 z6 y0_69 z9 E_123 y0_123 → X k 0 0 (cat [wMa h ad M, wSt (kg k) (ad 0) adN N, wSt (kg k) (ad 1) adF F, wHi (kg k) (ad 4) adQ Q, wRe (kg k) (ad 5) adE E_123, wOr (kg k) (ad 6) adO O]) 123 [some (.ref h), some (.int a2), some (.int z1.1), none, some (.int z3.1), some (.int z4.1), some (.int z5.1), some (.int z6.1), none, some (.int y0_69), some (.int z9.1), none, none, none] [.int y0_123] := by
      intro E_123 y0_123 hRES hok
      unfold j_L_isAskSo_123 at hRES
      unfold oj_L_isAskSo_123 at hok
      refine x_istore (pc' := 125) (L' := [some (.ref h), some (.int a2), some (.int z1.1), none, some (.int z3.1), some (.int z4.1), some (.int z5.1), some (.int z6.1), none, some (.int y0_69), some (.int z9.1), some (.int y0_123), none, none]) C dL_isAskSo_123 rfl (Nat.le_of_ble_eq_true rfl) rfl ?_
      refine x_aload_n (pc' := 126) C dL_isAskSo_125 rfl rfl rfl ?_
      refine x_iload_n (pc' := 127) C dL_isAskSo_126 rfl rfl rfl ?_
      obtain ⟨hn10, hok⟩ := hok
      obtain ⟨z11, ez11⟩ : ∃ z, z = (f_X6_ask M N F Q E_123 a2) := ⟨_, rfl⟩
      replace hRES := bd hRES z11 ez11
      replace hok := bdP hok z11 ez11
      have hc := c_X6_ask (kl k) (kg k) h ad M adN N adF F adQ Q adE E_123 a2 hn10
      rw [← ez11] at hc
      refine x_catWV (st := []) (st2 := [.int z11.1]) (pc' := 130) (wcs := [wMa h ad M, wSt (kg k) (ad 0) adN N, wSt (kg k) (ad 1) adF F, wHi (kg k) (ad 4) adQ Q, wRe (kg k) (ad 5) adE E_123]) (wrs := [wOr (kg k) (ad 6) adO O]) (wcs' := [wMa h ad M, wSt (kg k) (ad 0) adN z11.2.1, wSt (kg k) (ad 1) adF z11.2.2.1, wHi (kg k) (ad 4) adQ z11.2.2.2.1, wRe (kg k) (ad 5) adE z11.2.2.2.2]) C B [wMa h ad M, wSt (kg k) (ad 0) adN z11.2.1, wSt (kg k) (ad 1) adF z11.2.2.1, wHi (kg k) (ad 4) adQ z11.2.2.2.1, wRe (kg k) (ad 5) adE z11.2.2.2.2, wOr (kg k) (ad 6) adO O] hc rfl rfl cw_L_49 ok_X6_ask rfl (by decide) rfl rfl [5, 0, 1, 2, 3, 4] [1, 2, 3, 4, 5, 0] rfl rfl rfl rfl rfl (Nat.le_of_ble_eq_true rfl) (Nat.zero_le _) (Nat.zero_le _) rfl dL_isAskSo_127 rfl rfl ?_
      refine x_iload_n (pc' := 131) C dL_isAskSo_130 rfl rfl rfl ?_
      have join249 : ∀ (E_249 : CS) (y0_249 : Int32), RES = j_L_isAskSo_249 M O a2 z4 z9 z11 E_249 y0_249 → oj_L_isAskSo_249 M O a2 z4 z9 z11 E_249 y0_249 → X k 0 0 (cat [wMa h ad M, wSt (kg k) (ad 0) adN z11.2.1, wSt (kg k) (ad 1) adF z11.2.2.1, wHi (kg k) (ad 4) adQ z11.2.2.2.1, wRe (kg k) (ad 5) adE E_249, wOr (kg k) (ad 6) adO O]) 249 [some (.ref h), some (.int a2), none, none, none, some (.int z4.1), none, none, none, none, some (.int z9.1), none, none, none] [.int y0_249] := by
        intro E_249 y0_249 hRES hok
        unfold j_L_isAskSo_249 at hRES
        unfold oj_L_isAskSo_249 at hok
        refine x_istore (pc' := 251) (L' := [some (.ref h), some (.int a2), none, none, none, some (.int z4.1), none, none, none, none, some (.int z9.1), none, some (.int y0_249), none]) C dL_isAskSo_249 rfl (Nat.le_of_ble_eq_true rfl) rfl ?_
        refine x_aload_n (pc' := 252) C dL_isAskSo_251 rfl rfl rfl ?_
        obtain ⟨hn12, hok⟩ := hok
        obtain ⟨z13, ez13⟩ : ∃ z, z = (f_X6_undo M z11.2.1 z11.2.2.2.1) := ⟨_, rfl⟩
        replace hRES := bd hRES z13 ez13
        replace hok := bdP hok z13 ez13
        have hc := c_X6_undo (kl k) (kg k) h ad M adN z11.2.1 adQ z11.2.2.2.1 hn12
        rw [← ez13] at hc
        refine x_catWV (st := []) (st2 := [.int z13.1]) (pc' := 255) (wcs := [wMa h ad M, wSt (kg k) (ad 0) adN z11.2.1, wHi (kg k) (ad 4) adQ z11.2.2.2.1]) (wrs := [wSt (kg k) (ad 1) adF z11.2.2.1, wRe (kg k) (ad 5) adE E_249, wOr (kg k) (ad 6) adO O]) (wcs' := [wMa h ad M, wSt (kg k) (ad 0) adN z13.2.1, wHi (kg k) (ad 4) adQ z13.2.2]) C B [wMa h ad M, wSt (kg k) (ad 0) adN z13.2.1, wSt (kg k) (ad 1) adF z11.2.2.1, wHi (kg k) (ad 4) adQ z13.2.2, wRe (kg k) (ad 5) adE E_249, wOr (kg k) (ad 6) adO O] hc rfl rfl cw_L_58 ok_X6_undo rfl (by decide) rfl rfl [2, 4, 5, 0, 1, 3] [3, 4, 0, 5, 1, 2] rfl rfl rfl rfl rfl (Nat.le_of_ble_eq_true rfl) (Nat.zero_le _) (Nat.zero_le _) rfl dL_isAskSo_252 rfl rfl ?_
        refine x_istore (pc' := 257) (L' := [some (.ref h), some (.int a2), none, none, none, some (.int z4.1), none, none, none, none, some (.int z9.1), none, some (.int y0_249), some (.int z13.1)]) C dL_isAskSo_255 rfl (Nat.le_of_ble_eq_true rfl) rfl ?_
        refine x_iload (pc' := 259) C dL_isAskSo_257 rfl rfl ?_
        refine x_if_eq (tgt := 293) (pc' := 262) C dL_isAskSo_259 (by decide) rfl (fun c14 => ?_) (fun c14 => ?_)
        · rw [if_pos c14] at hRES
          replace hok := hok.1 c14
          refine x_iconst (v := 0) (pc' := 294) C dL_isAskSo_293 rfl (by decide) ?_
          exact x_zret (b := false) C (Nat.zero_le _) (Nat.zero_le _) dL_isAskSo_294 ⟨by rw [hRES], by rw [hRES]⟩
        · rw [if_neg c14] at hRES
          replace hok := hok.2 c14
          refine x_iload (pc' := 264) C dL_isAskSo_262 rfl rfl ?_
          refine x_if_lt (tgt := 293) (pc' := 267) C dL_isAskSo_264 (by decide) rfl (fun c15 => ?_) (fun c15 => ?_)
          · rw [if_pos c15] at hRES
            replace hok := hok.1 c15
            refine x_iconst (v := 0) (pc' := 294) C dL_isAskSo_293 rfl (by decide) ?_
            exact x_zret (b := false) C (Nat.zero_le _) (Nat.zero_le _) dL_isAskSo_294 ⟨by rw [hRES], by rw [hRES]⟩
          · rw [if_neg c15] at hRES
            replace hok := hok.2 c15
            refine x_aload_n (pc' := 268) C dL_isAskSo_267 rfl rfl rfl ?_
            refine x_iload_n (pc' := 269) C dL_isAskSo_268 rfl rfl rfl ?_
            refine x_bipush (v := 6) (pc' := 271) C dL_isAskSo_269 rfl (by decide) ?_
            obtain ⟨z16, ez16⟩ : ∃ z, z = (f_X6_version M z13.2.1 E_249 a2 6) := ⟨_, rfl⟩
            replace hRES := bd hRES z16 ez16
            replace hok := bdP hok z16 ez16
            have hc := c_X6_version (kl k) (kg k) h ad M adN z13.2.1 adE E_249 a2 6
            rw [← ez16] at hc
            refine x_catWV (st := []) (st2 := [.int z16.1]) (pc' := 274) (wcs := [wMa h ad M, wSt (kg k) (ad 0) adN z13.2.1, wRe (kg k) (ad 5) adE E_249]) (wrs := [wSt (kg k) (ad 1) adF z11.2.2.1, wHi (kg k) (ad 4) adQ z13.2.2, wOr (kg k) (ad 6) adO O]) (wcs' := [wMa h ad M, wSt (kg k) (ad 0) adN z13.2.1, wRe (kg k) (ad 5) adE z16.2]) C B [wMa h ad M, wSt (kg k) (ad 0) adN z13.2.1, wSt (kg k) (ad 1) adF z11.2.2.1, wHi (kg k) (ad 4) adQ z13.2.2, wRe (kg k) (ad 5) adE z16.2, wOr (kg k) (ad 6) adO O] hc rfl rfl cw_L_14 ok_X6_version rfl (by decide) rfl rfl [2, 3, 5, 0, 1, 4] [3, 4, 0, 1, 5, 2] rfl rfl rfl rfl rfl (Nat.le_of_ble_eq_true rfl) (Nat.zero_le _) (Nat.zero_le _) rfl dL_isAskSo_271 rfl rfl ?_
            refine x_iload (pc' := 276) C dL_isAskSo_274 rfl rfl ?_
            refine x_icmp_ne (tgt := 293) (pc' := 279) C dL_isAskSo_276 (by decide) rfl (fun c17 => ?_) (fun c17 => ?_)
            · rw [if_neg c17] at hRES
              replace hok := hok.2 c17
              refine x_iconst (v := 0) (pc' := 294) C dL_isAskSo_293 rfl (by decide) ?_
              exact x_zret (b := false) C (Nat.zero_le _) (Nat.zero_le _) dL_isAskSo_294 ⟨by rw [hRES], by rw [hRES]⟩
            · rw [if_pos c17] at hRES
              replace hok := hok.1 c17
              refine x_aload_n (pc' := 280) C dL_isAskSo_279 rfl rfl rfl ?_
              refine x_iconst (v := 1) (pc' := 281) C dL_isAskSo_280 rfl (by decide) ?_
              obtain ⟨z18, ez18⟩ : ∃ z, z = (f_X6_count M z13.2.1 z13.2.2 z16.2 O 1) := ⟨_, rfl⟩
              replace hRES := bd hRES z18 ez18
              replace hok := bdP hok z18 ez18
              have hc := c_X6_count (kl k) (kg k) h ad M adN z13.2.1 adQ z13.2.2 adE z16.2 adO O 1
              rw [← ez18] at hc
              refine x_catWV (st := []) (st2 := [.int z18.1]) (pc' := 284) (wcs := [wMa h ad M, wSt (kg k) (ad 0) adN z13.2.1, wHi (kg k) (ad 4) adQ z13.2.2, wRe (kg k) (ad 5) adE z16.2, wOr (kg k) (ad 6) adO O]) (wrs := [wSt (kg k) (ad 1) adF z11.2.2.1]) (wcs' := [wMa h ad M, wSt (kg k) (ad 0) adN z13.2.1, wHi (kg k) (ad 4) adQ z13.2.2, wRe (kg k) (ad 5) adE z18.2, wOr (kg k) (ad 6) adO O]) C B [wMa h ad M, wSt (kg k) (ad 0) adN z13.2.1, wSt (kg k) (ad 1) adF z11.2.2.1, wHi (kg k) (ad 4) adQ z13.2.2, wRe (kg k) (ad 5) adE z18.2, wOr (kg k) (ad 6) adO O] hc rfl rfl cw_L_23 ok_X6_count rfl (by decide) rfl rfl [2, 0, 1, 3, 4, 5] [1, 2, 0, 3, 4, 5] rfl rfl rfl rfl rfl (Nat.le_of_ble_eq_true rfl) (Nat.zero_le _) (Nat.zero_le _) rfl dL_isAskSo_281 rfl rfl ?_
              refine x_iload (pc' := 286) C dL_isAskSo_284 rfl rfl ?_
              refine x_icmp_ne (tgt := 293) (pc' := 289) C dL_isAskSo_286 (by decide) rfl (fun c19 => ?_) (fun c19 => ?_)
              · rw [if_neg c19] at hRES
                replace hok := hok.2 c19
                refine x_iconst (v := 0) (pc' := 294) C dL_isAskSo_293 rfl (by decide) ?_
                exact x_zret (b := false) C (Nat.zero_le _) (Nat.zero_le _) dL_isAskSo_294 ⟨by rw [hRES], by rw [hRES]⟩
              · rw [if_pos c19] at hRES
                replace hok := hok.1 c19
                refine x_iconst (v := 1) (pc' := 290) C dL_isAskSo_289 rfl (by decide) ?_
                refine x_goto (tgt := 294) C dL_isAskSo_290 (by decide) ?_
                exact x_zret (b := true) C (Nat.zero_le _) (Nat.zero_le _) dL_isAskSo_294 ⟨by rw [hRES], by rw [hRES]⟩
      refine x_icmp_ne (tgt := 248) (pc' := 134) C dL_isAskSo_131 (by decide) rfl (fun c20 => ?_) (fun c20 => ?_)
      · rw [if_neg c20] at hRES
        replace hok := hok.2 c20
        refine x_iconst (v := 0) (pc' := 249) C dL_isAskSo_248 rfl (by decide) ?_
        refine x_forget (L' := [some (.ref h), some (.int a2), none, none, none, some (.int z4.1), none, none, none, none, some (.int z9.1), none, none, none]) [0, 1, 4, 8] rfl rfl ?_
        exact join249 z11.2.2.2.2 0 hRES hok
      · rw [if_pos c20] at hRES
        replace hok := hok.1 c20
        refine x_aload_n (pc' := 135) C dL_isAskSo_134 rfl rfl rfl ?_
        refine x_iload_n (pc' := 136) C dL_isAskSo_135 rfl rfl rfl ?_
        refine x_bipush (v := 6) (pc' := 138) C dL_isAskSo_136 rfl (by decide) ?_
        obtain ⟨z21, ez21⟩ : ∃ z, z = (f_X6_version M z11.2.1 z11.2.2.2.2 a2 6) := ⟨_, rfl⟩
        replace hRES := bd hRES z21 ez21
        replace hok := bdP hok z21 ez21
        have hc := c_X6_version (kl k) (kg k) h ad M adN z11.2.1 adE z11.2.2.2.2 a2 6
        rw [← ez21] at hc
        refine x_catWV (st := []) (st2 := [.int z21.1]) (pc' := 141) (wcs := [wMa h ad M, wSt (kg k) (ad 0) adN z11.2.1, wRe (kg k) (ad 5) adE z11.2.2.2.2]) (wrs := [wSt (kg k) (ad 1) adF z11.2.2.1, wHi (kg k) (ad 4) adQ z11.2.2.2.1, wOr (kg k) (ad 6) adO O]) (wcs' := [wMa h ad M, wSt (kg k) (ad 0) adN z11.2.1, wRe (kg k) (ad 5) adE z21.2]) C B [wMa h ad M, wSt (kg k) (ad 0) adN z11.2.1, wSt (kg k) (ad 1) adF z11.2.2.1, wHi (kg k) (ad 4) adQ z11.2.2.2.1, wRe (kg k) (ad 5) adE z21.2, wOr (kg k) (ad 6) adO O] hc rfl rfl cw_L_14 ok_X6_version rfl (by decide) rfl rfl [2, 3, 5, 0, 1, 4] [3, 4, 0, 1, 5, 2] rfl rfl rfl rfl rfl (Nat.le_of_ble_eq_true rfl) (Nat.zero_le _) (Nat.zero_le _) rfl dL_isAskSo_138 rfl rfl ?_
        refine x_iload (pc' := 143) C dL_isAskSo_141 rfl rfl ?_
        refine x_iconst (v := 1) (pc' := 144) C dL_isAskSo_143 rfl (by decide) ?_
        refine x_iadd (pc' := 145) (v := (z9.1 + 1)) C dL_isAskSo_144 rfl rfl ?_
        refine x_icmp_ne (tgt := 248) (pc' := 148) C dL_isAskSo_145 (by decide) rfl (fun c22 => ?_) (fun c22 => ?_)
        · rw [if_neg c22] at hRES
          replace hok := hok.2 c22
          refine x_iconst (v := 0) (pc' := 249) C dL_isAskSo_248 rfl (by decide) ?_
          refine x_forget (L' := [some (.ref h), some (.int a2), none, none, none, some (.int z4.1), none, none, none, none, some (.int z9.1), none, none, none]) [0, 1, 4, 8] rfl rfl ?_
          exact join249 z21.2 0 hRES hok
        · rw [if_pos c22] at hRES
          replace hok := hok.1 c22
          refine x_aload_n (pc' := 149) C dL_isAskSo_148 rfl rfl rfl ?_
          refine x_iconst (v := 1) (pc' := 150) C dL_isAskSo_149 rfl (by decide) ?_
          obtain ⟨z23, ez23⟩ : ∃ z, z = (f_X6_count M z11.2.1 z11.2.2.2.1 z21.2 O 1) := ⟨_, rfl⟩
          replace hRES := bd hRES z23 ez23
          replace hok := bdP hok z23 ez23
          have hc := c_X6_count (kl k) (kg k) h ad M adN z11.2.1 adQ z11.2.2.2.1 adE z21.2 adO O 1
          rw [← ez23] at hc
          refine x_catWV (st := []) (st2 := [.int z23.1]) (pc' := 153) (wcs := [wMa h ad M, wSt (kg k) (ad 0) adN z11.2.1, wHi (kg k) (ad 4) adQ z11.2.2.2.1, wRe (kg k) (ad 5) adE z21.2, wOr (kg k) (ad 6) adO O]) (wrs := [wSt (kg k) (ad 1) adF z11.2.2.1]) (wcs' := [wMa h ad M, wSt (kg k) (ad 0) adN z11.2.1, wHi (kg k) (ad 4) adQ z11.2.2.2.1, wRe (kg k) (ad 5) adE z23.2, wOr (kg k) (ad 6) adO O]) C B [wMa h ad M, wSt (kg k) (ad 0) adN z11.2.1, wSt (kg k) (ad 1) adF z11.2.2.1, wHi (kg k) (ad 4) adQ z11.2.2.2.1, wRe (kg k) (ad 5) adE z23.2, wOr (kg k) (ad 6) adO O] hc rfl rfl cw_L_23 ok_X6_count rfl (by decide) rfl rfl [2, 0, 1, 3, 4, 5] [1, 2, 0, 3, 4, 5] rfl rfl rfl rfl rfl (Nat.le_of_ble_eq_true rfl) (Nat.zero_le _) (Nat.zero_le _) rfl dL_isAskSo_150 rfl rfl ?_
          refine x_iload (pc' := 155) C dL_isAskSo_153 rfl rfl ?_
          refine x_iload (pc' := 157) C dL_isAskSo_155 rfl rfl ?_
          have join165 : ∀ (y2_165 : Int32), RES = j_L_isAskSo_165 M O a2 z3 z4 z5 z6 y0_69 z9 y0_123 z11 z23 y2_165 → oj_L_isAskSo_165 M O a2 z3 z4 z5 z6 y0_69 z9 y0_123 z11 z23 y2_165 → X k 0 0 (cat [wMa h ad M, wSt (kg k) (ad 0) adN z11.2.1, wSt (kg k) (ad 1) adF z11.2.2.1, wHi (kg k) (ad 4) adQ z11.2.2.2.1, wRe (kg k) (ad 5) adE z23.2, wOr (kg k) (ad 6) adO O]) 165 [some (.ref h), some (.int a2), none, none, some (.int z3.1), some (.int z4.1), some (.int z5.1), some (.int z6.1), none, some (.int y0_69), some (.int z9.1), some (.int y0_123), none, none] [.int y2_165, .int z4.1, .int z23.1] := by
            intro y2_165 hRES hok
            unfold j_L_isAskSo_165 at hRES
            unfold oj_L_isAskSo_165 at hok
            refine x_iadd (pc' := 166) (v := (z4.1 + y2_165)) C dL_isAskSo_165 rfl rfl ?_
            refine x_icmp_ne (tgt := 248) (pc' := 169) C dL_isAskSo_166 (by decide) rfl (fun c24 => ?_) (fun c24 => ?_)
            · rw [if_neg c24] at hRES
              replace hok := hok.2 c24
              refine x_iconst (v := 0) (pc' := 249) C dL_isAskSo_248 rfl (by decide) ?_
              refine x_forget (L' := [some (.ref h), some (.int a2), none, none, none, some (.int z4.1), none, none, none, none, some (.int z9.1), none, none, none]) [0, 1, 3, 7] rfl rfl ?_
              exact join249 z23.2 0 hRES hok
            · rw [if_pos c24] at hRES
              replace hok := hok.1 c24
              refine x_aload_n (pc' := 170) C dL_isAskSo_169 rfl rfl rfl ?_
              refine x_bipush (v := 9) (pc' := 172) C dL_isAskSo_170 rfl (by decide) ?_
              obtain ⟨z25, ez25⟩ : ∃ z, z = (f_X6_count M z11.2.1 z11.2.2.2.1 z23.2 O 9) := ⟨_, rfl⟩
              replace hRES := bd hRES z25 ez25
              replace hok := bdP hok z25 ez25
              have hc := c_X6_count (kl k) (kg k) h ad M adN z11.2.1 adQ z11.2.2.2.1 adE z23.2 adO O 9
              rw [← ez25] at hc
              refine x_catWV (st := []) (st2 := [.int z25.1]) (pc' := 175) (wcs := [wMa h ad M, wSt (kg k) (ad 0) adN z11.2.1, wHi (kg k) (ad 4) adQ z11.2.2.2.1, wRe (kg k) (ad 5) adE z23.2, wOr (kg k) (ad 6) adO O]) (wrs := [wSt (kg k) (ad 1) adF z11.2.2.1]) (wcs' := [wMa h ad M, wSt (kg k) (ad 0) adN z11.2.1, wHi (kg k) (ad 4) adQ z11.2.2.2.1, wRe (kg k) (ad 5) adE z25.2, wOr (kg k) (ad 6) adO O]) C B [wMa h ad M, wSt (kg k) (ad 0) adN z11.2.1, wSt (kg k) (ad 1) adF z11.2.2.1, wHi (kg k) (ad 4) adQ z11.2.2.2.1, wRe (kg k) (ad 5) adE z25.2, wOr (kg k) (ad 6) adO O] hc rfl rfl cw_L_23 ok_X6_count rfl (by decide) rfl rfl [2, 0, 1, 3, 4, 5] [1, 2, 0, 3, 4, 5] rfl rfl rfl rfl rfl (Nat.le_of_ble_eq_true rfl) (Nat.zero_le _) (Nat.zero_le _) rfl dL_isAskSo_172 rfl rfl ?_
              refine x_iload (pc' := 177) C dL_isAskSo_175 rfl rfl ?_
              refine x_iload (pc' := 179) C dL_isAskSo_177 rfl rfl ?_
              have join187 : ∀ (y2_187 : Int32), RES = j_L_isAskSo_187 M O a2 z3 z4 z5 z6 y0_69 z9 y0_123 z11 z25 y2_187 → oj_L_isAskSo_187 M O a2 z3 z4 z5 z6 y0_69 z9 y0_123 z11 z25 y2_187 → X k 0 0 (cat [wMa h ad M, wSt (kg k) (ad 0) adN z11.2.1, wSt (kg k) (ad 1) adF z11.2.2.1, wHi (kg k) (ad 4) adQ z11.2.2.2.1, wRe (kg k) (ad 5) adE z25.2, wOr (kg k) (ad 6) adO O]) 187 [some (.ref h), some (.int a2), none, none, some (.int z3.1), some (.int z4.1), some (.int z5.1), none, none, some (.int y0_69), some (.int z9.1), some (.int y0_123), none, none] [.int y2_187, .int z6.1, .int z25.1] := by
                intro y2_187 hRES hok
                unfold j_L_isAskSo_187 at hRES
                unfold oj_L_isAskSo_187 at hok
                refine x_iadd (pc' := 188) (v := (z6.1 + y2_187)) C dL_isAskSo_187 rfl rfl ?_
                refine x_icmp_ne (tgt := 248) (pc' := 191) C dL_isAskSo_188 (by decide) rfl (fun c26 => ?_) (fun c26 => ?_)
                · rw [if_neg c26] at hRES
                  replace hok := hok.2 c26
                  refine x_iconst (v := 0) (pc' := 249) C dL_isAskSo_248 rfl (by decide) ?_
                  refine x_forget (L' := [some (.ref h), some (.int a2), none, none, none, some (.int z4.1), none, none, none, none, some (.int z9.1), none, none, none]) [0, 1, 3, 6] rfl rfl ?_
                  exact join249 z25.2 0 hRES hok
                · rw [if_pos c26] at hRES
                  replace hok := hok.1 c26
                  refine x_aload_n (pc' := 192) C dL_isAskSo_191 rfl rfl rfl ?_
                  refine x_bipush (v := 8) (pc' := 194) C dL_isAskSo_192 rfl (by decide) ?_
                  obtain ⟨z27, ez27⟩ : ∃ z, z = (f_X6_count M z11.2.1 z11.2.2.2.1 z25.2 O 8) := ⟨_, rfl⟩
                  replace hRES := bd hRES z27 ez27
                  replace hok := bdP hok z27 ez27
                  have hc := c_X6_count (kl k) (kg k) h ad M adN z11.2.1 adQ z11.2.2.2.1 adE z25.2 adO O 8
                  rw [← ez27] at hc
                  refine x_catWV (st := []) (st2 := [.int z27.1]) (pc' := 197) (wcs := [wMa h ad M, wSt (kg k) (ad 0) adN z11.2.1, wHi (kg k) (ad 4) adQ z11.2.2.2.1, wRe (kg k) (ad 5) adE z25.2, wOr (kg k) (ad 6) adO O]) (wrs := [wSt (kg k) (ad 1) adF z11.2.2.1]) (wcs' := [wMa h ad M, wSt (kg k) (ad 0) adN z11.2.1, wHi (kg k) (ad 4) adQ z11.2.2.2.1, wRe (kg k) (ad 5) adE z27.2, wOr (kg k) (ad 6) adO O]) C B [wMa h ad M, wSt (kg k) (ad 0) adN z11.2.1, wSt (kg k) (ad 1) adF z11.2.2.1, wHi (kg k) (ad 4) adQ z11.2.2.2.1, wRe (kg k) (ad 5) adE z27.2, wOr (kg k) (ad 6) adO O] hc rfl rfl cw_L_23 ok_X6_count rfl (by decide) rfl rfl [2, 0, 1, 3, 4, 5] [1, 2, 0, 3, 4, 5] rfl rfl rfl rfl rfl (Nat.le_of_ble_eq_true rfl) (Nat.zero_le _) (Nat.zero_le _) rfl dL_isAskSo_194 rfl rfl ?_
                  refine x_iload (pc' := 199) C dL_isAskSo_197 rfl rfl ?_
                  refine x_iload (pc' := 201) C dL_isAskSo_199 rfl rfl ?_
                  have join220 : ∀ (y2_220 : Int32), RES = j_L_isAskSo_220 M O a2 z4 z5 z9 y0_123 z11 z27 y2_220 → oj_L_isAskSo_220 M O a2 z4 z5 z9 y0_123 z11 z27 y2_220 → X k 0 0 (cat [wMa h ad M, wSt (kg k) (ad 0) adN z11.2.1, wSt (kg k) (ad 1) adF z11.2.2.1, wHi (kg k) (ad 4) adQ z11.2.2.2.1, wRe (kg k) (ad 5) adE z27.2, wOr (kg k) (ad 6) adO O]) 220 [some (.ref h), some (.int a2), none, none, none, some (.int z4.1), none, none, none, none, some (.int z9.1), some (.int y0_123), none, none] [.int y2_220, .int z5.1, .int z27.1] := by
                    intro y2_220 hRES hok
                    unfold j_L_isAskSo_220 at hRES
                    unfold oj_L_isAskSo_220 at hok
                    refine x_iadd (pc' := 221) (v := (z5.1 + y2_220)) C dL_isAskSo_220 rfl rfl ?_
                    refine x_icmp_ne (tgt := 248) (pc' := 224) C dL_isAskSo_221 (by decide) rfl (fun c28 => ?_) (fun c28 => ?_)
                    · rw [if_neg c28] at hRES
                      replace hok := hok.2 c28
                      refine x_iconst (v := 0) (pc' := 249) C dL_isAskSo_248 rfl (by decide) ?_
                      refine x_forget (L' := [some (.ref h), some (.int a2), none, none, none, some (.int z4.1), none, none, none, none, some (.int z9.1), none, none, none]) [0, 1, 2, 3] rfl rfl ?_
                      exact join249 z27.2 0 hRES hok
                    · rw [if_pos c28] at hRES
                      replace hok := hok.1 c28
                      refine x_aload_n (pc' := 225) C dL_isAskSo_224 rfl rfl rfl ?_
                      refine x_iload_n (pc' := 226) C dL_isAskSo_225 rfl rfl rfl ?_
                      refine x_iconst (v := 3) (pc' := 227) C dL_isAskSo_226 rfl (by decide) ?_
                      obtain ⟨z29, ez29⟩ : ∃ z, z = (f_X6_version M z11.2.1 z27.2 a2 3) := ⟨_, rfl⟩
                      replace hRES := bd hRES z29 ez29
                      replace hok := bdP hok z29 ez29
                      have hc := c_X6_version (kl k) (kg k) h ad M adN z11.2.1 adE z27.2 a2 3
                      rw [← ez29] at hc
                      refine x_catWV (st := []) (st2 := [.int z29.1]) (pc' := 230) (wcs := [wMa h ad M, wSt (kg k) (ad 0) adN z11.2.1, wRe (kg k) (ad 5) adE z27.2]) (wrs := [wSt (kg k) (ad 1) adF z11.2.2.1, wHi (kg k) (ad 4) adQ z11.2.2.2.1, wOr (kg k) (ad 6) adO O]) (wcs' := [wMa h ad M, wSt (kg k) (ad 0) adN z11.2.1, wRe (kg k) (ad 5) adE z29.2]) C B [wMa h ad M, wSt (kg k) (ad 0) adN z11.2.1, wSt (kg k) (ad 1) adF z11.2.2.1, wHi (kg k) (ad 4) adQ z11.2.2.2.1, wRe (kg k) (ad 5) adE z29.2, wOr (kg k) (ad 6) adO O] hc rfl rfl cw_L_14 ok_X6_version rfl (by decide) rfl rfl [2, 3, 5, 0, 1, 4] [3, 4, 0, 1, 5, 2] rfl rfl rfl rfl rfl (Nat.le_of_ble_eq_true rfl) (Nat.zero_le _) (Nat.zero_le _) rfl dL_isAskSo_227 rfl rfl ?_
                      refine x_iload_n (pc' := 231) C dL_isAskSo_230 rfl rfl rfl ?_
                      have join239 : ∀ (y0_239 : Int32), RES = j_L_isAskSo_239 M O a2 z4 z9 y0_123 z11 z29 y0_239 → oj_L_isAskSo_239 M O a2 z4 z9 y0_123 z11 z29 y0_239 → X k 0 0 (cat [wMa h ad M, wSt (kg k) (ad 0) adN z11.2.1, wSt (kg k) (ad 1) adF z11.2.2.1, wHi (kg k) (ad 4) adQ z11.2.2.2.1, wRe (kg k) (ad 5) adE z29.2, wOr (kg k) (ad 6) adO O]) 239 [some (.ref h), some (.int a2), none, none, none, some (.int z4.1), none, none, none, none, some (.int z9.1), some (.int y0_123), none, none] [.int y0_239] := by
                        intro y0_239 hRES hok
                        unfold j_L_isAskSo_239 at hRES
                        unfold oj_L_isAskSo_239 at hok
                        refine x_iload (pc' := 241) C dL_isAskSo_239 rfl rfl ?_
                        refine x_icmp_ne (tgt := 248) (pc' := 244) C dL_isAskSo_241 (by decide) rfl (fun c30 => ?_) (fun c30 => ?_)
                        · rw [if_neg c30] at hRES
                          replace hok := hok.2 c30
                          refine x_iconst (v := 0) (pc' := 249) C dL_isAskSo_248 rfl (by decide) ?_
                          refine x_forget (L' := [some (.ref h), some (.int a2), none, none, none, some (.int z4.1), none, none, none, none, some (.int z9.1), none, none, none]) [0, 1, 2, 3] rfl rfl ?_
                          exact join249 z29.2 0 hRES hok
                        · rw [if_pos c30] at hRES
                          replace hok := hok.1 c30
                          refine x_iconst (v := 1) (pc' := 245) C dL_isAskSo_244 rfl (by decide) ?_
                          refine x_goto (tgt := 249) C dL_isAskSo_245 (by decide) ?_
                          refine x_forget (L' := [some (.ref h), some (.int a2), none, none, none, some (.int z4.1), none, none, none, none, some (.int z9.1), none, none, none]) [0, 1, 2, 3] rfl rfl ?_
                          exact join249 z29.2 1 hRES hok
                      refine x_icmp_ne (tgt := 238) (pc' := 234) C dL_isAskSo_231 (by decide) rfl (fun c31 => ?_) (fun c31 => ?_)
                      · rw [if_neg c31] at hRES
                        replace hok := hok.2 c31
                        refine x_iconst (v := 0) (pc' := 239) C dL_isAskSo_238 rfl (by decide) ?_
                        exact join239 0 hRES hok
                      · rw [if_pos c31] at hRES
                        replace hok := hok.1 c31
                        refine x_iconst (v := 1) (pc' := 235) C dL_isAskSo_234 rfl (by decide) ?_
                        refine x_goto (tgt := 239) C dL_isAskSo_235 (by decide) ?_
                        exact join239 1 hRES hok
                  refine x_if_eq (tgt := 219) (pc' := 204) C dL_isAskSo_201 (by decide) rfl (fun c32 => ?_) (fun c32 => ?_)
                  · rw [if_pos c32] at hRES
                    replace hok := hok.1 c32
                    refine x_iconst (v := 0) (pc' := 220) C dL_isAskSo_219 rfl (by decide) ?_
                    refine x_forget (L' := [some (.ref h), some (.int a2), none, none, none, some (.int z4.1), none, none, none, none, some (.int z9.1), some (.int y0_123), none, none]) [0, 1, 3, 6, 7] rfl rfl ?_
                    exact join220 0 hRES hok
                  · rw [if_neg c32] at hRES
                    replace hok := hok.2 c32
                    refine x_iload (pc' := 206) C dL_isAskSo_204 rfl rfl ?_
                    refine x_if_ne (tgt := 219) (pc' := 209) C dL_isAskSo_206 (by decide) rfl (fun c33 => ?_) (fun c33 => ?_)
                    · rw [if_neg c33] at hRES
                      replace hok := hok.2 c33
                      refine x_iconst (v := 0) (pc' := 220) C dL_isAskSo_219 rfl (by decide) ?_
                      refine x_forget (L' := [some (.ref h), some (.int a2), none, none, none, some (.int z4.1), none, none, none, none, some (.int z9.1), some (.int y0_123), none, none]) [0, 1, 3, 6, 7] rfl rfl ?_
                      exact join220 0 hRES hok
                    · rw [if_pos c33] at hRES
                      replace hok := hok.1 c33
                      refine x_iload_n (pc' := 210) C dL_isAskSo_209 rfl rfl rfl ?_
                      refine x_iload (pc' := 212) C dL_isAskSo_210 rfl rfl ?_
                      refine x_icmp_eq (tgt := 219) (pc' := 215) C dL_isAskSo_212 (by decide) rfl (fun c34 => ?_) (fun c34 => ?_)
                      · rw [if_pos c34] at hRES
                        replace hok := hok.1 c34
                        refine x_iconst (v := 0) (pc' := 220) C dL_isAskSo_219 rfl (by decide) ?_
                        refine x_forget (L' := [some (.ref h), some (.int a2), none, none, none, some (.int z4.1), none, none, none, none, some (.int z9.1), some (.int y0_123), none, none]) [0, 1, 3, 6, 7] rfl rfl ?_
                        exact join220 0 hRES hok
                      · rw [if_neg c34] at hRES
                        replace hok := hok.2 c34
                        refine x_iconst (v := 1) (pc' := 216) C dL_isAskSo_215 rfl (by decide) ?_
                        refine x_goto (tgt := 220) C dL_isAskSo_216 (by decide) ?_
                        refine x_forget (L' := [some (.ref h), some (.int a2), none, none, none, some (.int z4.1), none, none, none, none, some (.int z9.1), some (.int y0_123), none, none]) [0, 1, 3, 6, 7] rfl rfl ?_
                        exact join220 1 hRES hok
              refine x_if_eq (tgt := 186) (pc' := 182) C dL_isAskSo_179 (by decide) rfl (fun c35 => ?_) (fun c35 => ?_)
              · rw [if_pos c35] at hRES
                replace hok := hok.1 c35
                refine x_iconst (v := 0) (pc' := 187) C dL_isAskSo_186 rfl (by decide) ?_
                refine x_forget (L' := [some (.ref h), some (.int a2), none, none, some (.int z3.1), some (.int z4.1), some (.int z5.1), none, none, some (.int y0_69), some (.int z9.1), some (.int y0_123), none, none]) [0, 1, 2, 3, 4, 6, 7, 8] rfl rfl ?_
                exact join187 0 hRES hok
              · rw [if_neg c35] at hRES
                replace hok := hok.2 c35
                refine x_iconst (v := 1) (pc' := 183) C dL_isAskSo_182 rfl (by decide) ?_
                refine x_goto (tgt := 187) C dL_isAskSo_183 (by decide) ?_
                refine x_forget (L' := [some (.ref h), some (.int a2), none, none, some (.int z3.1), some (.int z4.1), some (.int z5.1), none, none, some (.int y0_69), some (.int z9.1), some (.int y0_123), none, none]) [0, 1, 2, 3, 4, 6, 7, 8] rfl rfl ?_
                exact join187 1 hRES hok
          refine x_if_eq (tgt := 164) (pc' := 160) C dL_isAskSo_157 (by decide) rfl (fun c36 => ?_) (fun c36 => ?_)
          · rw [if_pos c36] at hRES
            replace hok := hok.1 c36
            refine x_iconst (v := 0) (pc' := 165) C dL_isAskSo_164 rfl (by decide) ?_
            refine x_forget (L' := [some (.ref h), some (.int a2), none, none, some (.int z3.1), some (.int z4.1), some (.int z5.1), some (.int z6.1), none, some (.int y0_69), some (.int z9.1), some (.int y0_123), none, none]) [0, 1, 3, 4, 5, 6, 7, 8, 9] rfl rfl ?_
            exact join165 0 hRES hok
          · rw [if_neg c36] at hRES
            replace hok := hok.2 c36
            refine x_iconst (v := 1) (pc' := 161) C dL_isAskSo_160 rfl (by decide) ?_
            refine x_goto (tgt := 165) C dL_isAskSo_161 (by decide) ?_
            refine x_forget (L' := [some (.ref h), some (.int a2), none, none, some (.int z3.1), some (.int z4.1), some (.int z5.1), some (.int z6.1), none, some (.int y0_69), some (.int z9.1), some (.int y0_123), none, none]) [0, 1, 3, 4, 5, 6, 7, 8, 9] rfl rfl ?_
            exact join165 1 hRES hok
    refine x_if_ne (tgt := 118) (pc' := 85) C dL_isAskSo_82 (by decide) rfl (fun c37 => ?_) (fun c37 => ?_)
    · rw [if_neg c37] at hRES
      replace hok := hok.2 c37
      refine x_iconst (v := 1) (pc' := 119) C dL_isAskSo_118 rfl (by decide) ?_
      refine x_goto (tgt := 123) C dL_isAskSo_119 (by decide) ?_
      refine x_forget (L' := [some (.ref h), some (.int a2), some (.int z1.1), none, some (.int z3.1), some (.int z4.1), some (.int z5.1), some (.int z6.1), none, some (.int y0_69), some (.int z9.1), none, none, none]) [0, 1, 2, 3, 4, 5, 6, 8, 9] rfl rfl ?_
      exact join123 z9.2 1 hRES hok
    · rw [if_pos c37] at hRES
      replace hok := hok.1 c37
      refine x_iload (pc' := 87) C dL_isAskSo_85 rfl rfl ?_
      refine x_iconst (v := 1) (pc' := 88) C dL_isAskSo_87 rfl (by decide) ?_
      refine x_icmp_eq (tgt := 118) (pc' := 91) C dL_isAskSo_88 (by decide) rfl (fun c38 => ?_) (fun c38 => ?_)
      · rw [if_pos c38] at hRES
        replace hok := hok.1 c38
        refine x_iconst (v := 1) (pc' := 119) C dL_isAskSo_118 rfl (by decide) ?_
        refine x_goto (tgt := 123) C dL_isAskSo_119 (by decide) ?_
        refine x_forget (L' := [some (.ref h), some (.int a2), some (.int z1.1), none, some (.int z3.1), some (.int z4.1), some (.int z5.1), some (.int z6.1), none, some (.int y0_69), some (.int z9.1), none, none, none]) [0, 1, 2, 3, 4, 5, 6, 8, 9] rfl rfl ?_
        exact join123 z9.2 1 hRES hok
      · rw [if_neg c38] at hRES
        replace hok := hok.2 c38
        refine x_iload_n (pc' := 92) C dL_isAskSo_91 rfl rfl rfl ?_
        refine x_iload (pc' := 94) C dL_isAskSo_92 rfl rfl ?_
        refine x_icmp_eq (tgt := 118) (pc' := 97) C dL_isAskSo_94 (by decide) rfl (fun c39 => ?_) (fun c39 => ?_)
        · rw [if_pos c39] at hRES
          replace hok := hok.1 c39
          refine x_iconst (v := 1) (pc' := 119) C dL_isAskSo_118 rfl (by decide) ?_
          refine x_goto (tgt := 123) C dL_isAskSo_119 (by decide) ?_
          refine x_forget (L' := [some (.ref h), some (.int a2), some (.int z1.1), none, some (.int z3.1), some (.int z4.1), some (.int z5.1), some (.int z6.1), none, some (.int y0_69), some (.int z9.1), none, none, none]) [0, 1, 2, 3, 4, 5, 6, 8, 9] rfl rfl ?_
          exact join123 z9.2 1 hRES hok
        · rw [if_neg c39] at hRES
          replace hok := hok.2 c39
          refine x_iload (pc' := 99) C dL_isAskSo_97 rfl rfl ?_
          refine x_iconst (v := 2) (pc' := 100) C dL_isAskSo_99 rfl (by decide) ?_
          refine x_icmp_ne (tgt := 122) (pc' := 103) C dL_isAskSo_100 (by decide) rfl (fun c40 => ?_) (fun c40 => ?_)
          · rw [if_neg c40] at hRES
            replace hok := hok.2 c40
            refine x_iconst (v := 0) (pc' := 123) C dL_isAskSo_122 rfl (by decide) ?_
            refine x_forget (L' := [some (.ref h), some (.int a2), some (.int z1.1), none, some (.int z3.1), some (.int z4.1), some (.int z5.1), some (.int z6.1), none, some (.int y0_69), some (.int z9.1), none, none, none]) [0, 1, 2, 3, 4, 5, 6, 8, 9] rfl rfl ?_
            exact join123 z9.2 0 hRES hok
          · rw [if_pos c40] at hRES
            replace hok := hok.1 c40
            refine x_iload (pc' := 105) C dL_isAskSo_103 rfl rfl ?_
            refine x_iconst (v := 1) (pc' := 106) C dL_isAskSo_105 rfl (by decide) ?_
            refine x_iadd (pc' := 107) (v := (z9.1 + 1)) C dL_isAskSo_106 rfl rfl ?_
            refine x_aload_n (pc' := 108) C dL_isAskSo_107 rfl rfl rfl ?_
            refine x_iload (pc' := 110) C dL_isAskSo_108 rfl rfl ?_
            refine x_bipush (v := 6) (pc' := 112) C dL_isAskSo_110 rfl (by decide) ?_
            obtain ⟨z41, ez41⟩ : ∃ z, z = (f_X6_version M N z9.2 z3.1 6) := ⟨_, rfl⟩
            replace hRES := bd hRES z41 ez41
            replace hok := bdP hok z41 ez41
            have hc := c_X6_version (kl k) (kg k) h ad M adN N adE z9.2 z3.1 6
            rw [← ez41] at hc
            refine x_catWV (st := [.int (z9.1 + 1)]) (st2 := [.int z41.1, .int (z9.1 + 1)]) (pc' := 115) (wcs := [wMa h ad M, wSt (kg k) (ad 0) adN N, wRe (kg k) (ad 5) adE z9.2]) (wrs := [wSt (kg k) (ad 1) adF F, wHi (kg k) (ad 4) adQ Q, wOr (kg k) (ad 6) adO O]) (wcs' := [wMa h ad M, wSt (kg k) (ad 0) adN N, wRe (kg k) (ad 5) adE z41.2]) C B [wMa h ad M, wSt (kg k) (ad 0) adN N, wSt (kg k) (ad 1) adF F, wHi (kg k) (ad 4) adQ Q, wRe (kg k) (ad 5) adE z41.2, wOr (kg k) (ad 6) adO O] hc rfl rfl cw_L_14 ok_X6_version rfl (by decide) rfl rfl [2, 3, 5, 0, 1, 4] [3, 4, 0, 1, 5, 2] rfl rfl rfl rfl rfl (Nat.le_of_ble_eq_true rfl) (Nat.zero_le _) (Nat.zero_le _) rfl dL_isAskSo_112 rfl rfl ?_
            refine x_icmp_le (tgt := 122) (pc' := 118) C dL_isAskSo_115 (by decide) rfl (fun c42 => ?_) (fun c42 => ?_)
            · rw [if_neg c42] at hRES
              replace hok := hok.2 c42
              refine x_iconst (v := 0) (pc' := 123) C dL_isAskSo_122 rfl (by decide) ?_
              refine x_forget (L' := [some (.ref h), some (.int a2), some (.int z1.1), none, some (.int z3.1), some (.int z4.1), some (.int z5.1), some (.int z6.1), none, some (.int y0_69), some (.int z9.1), none, none, none]) [0, 1, 2, 3, 4, 5, 6, 8, 9] rfl rfl ?_
              exact join123 z41.2 0 hRES hok
            · rw [if_pos c42] at hRES
              replace hok := hok.1 c42
              refine x_iconst (v := 1) (pc' := 119) C dL_isAskSo_118 rfl (by decide) ?_
              refine x_goto (tgt := 123) C dL_isAskSo_119 (by decide) ?_
              refine x_forget (L' := [some (.ref h), some (.int a2), some (.int z1.1), none, some (.int z3.1), some (.int z4.1), some (.int z5.1), some (.int z6.1), none, some (.int y0_69), some (.int z9.1), none, none, none]) [0, 1, 2, 3, 4, 5, 6, 8, 9] rfl rfl ?_
              exact join123 z41.2 1 hRES hok
  refine x_icmp_le (tgt := 68) (pc' := 64) C dL_isAskSo_61 (by decide) rfl (fun c43 => ?_) (fun c43 => ?_)
  · rw [if_neg c43] at hRES
    replace hok := hok.2 c43
    refine x_iconst (v := 0) (pc' := 69) C dL_isAskSo_68 rfl (by decide) ?_
    refine x_forget (L' := [some (.ref h), some (.int a2), some (.int z1.1), none, some (.int z3.1), some (.int z4.1), some (.int z5.1), some (.int z6.1), some (.int z7.1), none, none, none, none, none]) [0, 1, 2, 4, 5, 6, 7, 8] rfl rfl ?_
    exact join69 0 hRES hok
  · rw [if_pos c43] at hRES
    replace hok := hok.1 c43
    refine x_iconst (v := 1) (pc' := 65) C dL_isAskSo_64 rfl (by decide) ?_
    refine x_goto (tgt := 69) C dL_isAskSo_65 (by decide) ?_
    refine x_forget (L' := [some (.ref h), some (.int a2), some (.int z1.1), none, some (.int z3.1), some (.int z4.1), some (.int z5.1), some (.int z6.1), some (.int z7.1), none, none, none, none, none]) [0, 1, 2, 4, 5, 6, 7, 8] rfl rfl ?_
    exact join69 1 hRES hok

def k_L_areIfsSo_354 (M : CS) (a2 : Int32) (a3 : Int32) (z3 : Int32 × CS) (F_281 : CS) (x6_281 : Int32) (N_306 : CS) (Q_306 : HS) (x10_306 : Int32) (E_354 : CS) (x12_354 : Int32) : Bool × CS × CS × HS × CS := (if x6_281 = 0 then (false, N_306, F_281, Q_306, E_354) else (if x10_306 < 0 then (false, N_306, F_281, Q_306, E_354) else (if x12_354 = (f_X6_common M N_306 a2 a3) then (if (f_X6_common M N_306 a3 a2) = (f_X6_common M N_306 a2 a3) then (if (f_X6_unlike M N_306 a2 a3) = (f_X6_unlike M N_306 a3 a2) then (bind1 (f_X6_ifRoot M N_306 E_354 a2) (fun z12 => (if z12.1 = z3.1 then (true, N_306, F_281, Q_306, z12.2) else (false, N_306, F_281, Q_306, z12.2)))) else (false, N_306, F_281, Q_306, E_354)) else (false, N_306, F_281, Q_306, E_354)) else (false, N_306, F_281, Q_306, E_354))))
def ok_L_areIfsSo_354 (M : CS) (a2 : Int32) (a3 : Int32) (z3 : Int32 × CS) (x6_281 : Int32) (N_306 : CS) (x10_306 : Int32) (E_354 : CS) (x12_354 : Int32) : Prop := ((x6_281 = 0 → True) ∧ (¬ (x6_281 = 0) → ((x10_306 < 0 → True) ∧ (¬ (x10_306 < 0) → ((x12_354 = (f_X6_common M N_306 a2 a3) → (((f_X6_common M N_306 a3 a2) = (f_X6_common M N_306 a2 a3) → (((f_X6_unlike M N_306 a2 a3) = (f_X6_unlike M N_306 a3 a2) → (bind1 (f_X6_ifRoot M N_306 E_354 a2) (fun z12 => ((z12.1 = z3.1 → True) ∧ (¬ (z12.1 = z3.1) → True))))) ∧ (¬ (f_X6_unlike M N_306 a2 a3) = (f_X6_unlike M N_306 a3 a2) → True))) ∧ (¬ (f_X6_common M N_306 a3 a2) = (f_X6_common M N_306 a2 a3) → True))) ∧ (¬ (x12_354 = (f_X6_common M N_306 a2 a3)) → True))))))
def l_L_areIfsSo_320 (M : CS) (a2 : Int32) (a3 : Int32) (z3 : Int32 × CS) (F_281 : CS) (x6_281 : Int32) (N_306 : CS) (Q_306 : HS) (x10_306 : Int32) : Nat → CS → Int32 → Nat → Bool × CS × CS × HS × CS
  | 0, _, _, _ => (false, dfCS, dfCS, dfHS, dfCS)
  | n320 + 1, E_320, x12_320, i13_320 => (if i13_320 < 24 then (if x12_320 = (f_X6_common M N_306 a2 a3) then (k_L_areIfsSo_354 M a2 a3 z3 F_281 x6_281 N_306 Q_306 x10_306 E_320 x12_320) else (if 0 < x12_320 then (bind1 (f_X6_version M N_306 E_320 x12_320 0) (fun z17 => (l_L_areIfsSo_320 M a2 a3 z3 F_281 x6_281 N_306 Q_306 x10_306 n320 z17.2 z17.1 (i13_320 + 1)))) else (k_L_areIfsSo_354 M a2 a3 z3 F_281 x6_281 N_306 Q_306 x10_306 E_320 x12_320))) else (k_L_areIfsSo_354 M a2 a3 z3 F_281 x6_281 N_306 Q_306 x10_306 E_320 x12_320))
def ol_L_areIfsSo_320 (M : CS) (a2 : Int32) (a3 : Int32) (z3 : Int32 × CS) (x6_281 : Int32) (N_306 : CS) (x10_306 : Int32) : Nat → CS → Int32 → Nat → Prop
  | 0, _, _, _ => True
  | n320 + 1, E_320, x12_320, i13_320 => ((i13_320 < 24 → ((x12_320 = (f_X6_common M N_306 a2 a3) → (ok_L_areIfsSo_354 M a2 a3 z3 x6_281 N_306 x10_306 E_320 x12_320)) ∧ (¬ (x12_320 = (f_X6_common M N_306 a2 a3)) → ((0 < x12_320 → (bind1 (f_X6_version M N_306 E_320 x12_320 0) (fun z17 => (ol_L_areIfsSo_320 M a2 a3 z3 x6_281 N_306 x10_306 n320 z17.2 z17.1 (i13_320 + 1))))) ∧ (¬ (0 < x12_320) → (ok_L_areIfsSo_354 M a2 a3 z3 x6_281 N_306 x10_306 E_320 x12_320)))))) ∧ (¬ (i13_320 < 24) → (ok_L_areIfsSo_354 M a2 a3 z3 x6_281 N_306 x10_306 E_320 x12_320)))
def k_L_areIfsSo_306 (M : CS) (a2 : Int32) (a3 : Int32) (z3 : Int32 × CS) (E_281 : CS) (F_281 : CS) (x6_281 : Int32) (N_306 : CS) (Q_306 : HS) (x10_306 : Int32) : Bool × CS × CS × HS × CS := (l_L_areIfsSo_320 M a2 a3 z3 F_281 x6_281 N_306 Q_306 x10_306 25 E_281 a3 0)
def ok_L_areIfsSo_306 (M : CS) (a2 : Int32) (a3 : Int32) (z3 : Int32 × CS) (E_281 : CS) (x6_281 : Int32) (N_306 : CS) (Q_306 : HS) (x10_306 : Int32) : Prop := (ol_L_areIfsSo_320 M a2 a3 z3 x6_281 N_306 x10_306 25 E_281 a3 0)
def l_L_areIfsSo_287 (M : CS) (a2 : Int32) (a3 : Int32) (z3 : Int32 × CS) (E_281 : CS) (F_281 : CS) (x6_281 : Int32) (x7_281 : Int32) : Nat → CS → HS → Int32 → Nat → Bool × CS × CS × HS × CS
  | 0, _, _, _, _ => (false, dfCS, dfCS, dfHS, dfCS)
  | n287 + 1, N_287, Q_287, x10_287, i11_287 => (if (nI i11_287) < x7_281 then (bind1 (f_X6_undo M N_287 Q_287) (fun z20 => (l_L_areIfsSo_287 M a2 a3 z3 E_281 F_281 x6_281 x7_281 n287 z20.2.1 z20.2.2 z20.1 (i11_287 + 1)))) else (k_L_areIfsSo_306 M a2 a3 z3 E_281 F_281 x6_281 N_287 Q_287 x10_287))
def ol_L_areIfsSo_287 (M : CS) (a2 : Int32) (a3 : Int32) (z3 : Int32 × CS) (E_281 : CS) (x6_281 : Int32) (x7_281 : Int32) : Nat → CS → HS → Int32 → Nat → Prop
  | 0, _, _, _, _ => False
  | n287 + 1, N_287, Q_287, x10_287, i11_287 => (((nI i11_287) < x7_281 → ((o_X6_undo M N_287 Q_287) ∧ (bind1 (f_X6_undo M N_287 Q_287) (fun z20 => (ol_L_areIfsSo_287 M a2 a3 z3 E_281 x6_281 x7_281 n287 z20.2.1 z20.2.2 z20.1 (i11_287 + 1)))))) ∧ (¬ (nI i11_287) < x7_281 → (ok_L_areIfsSo_306 M a2 a3 z3 E_281 x6_281 N_287 Q_287 x10_287)))
def j_L_areIfsSo_281 (M : CS) (a2 : Int32) (a3 : Int32) (z3 : Int32 × CS) (E_281 : CS) (F_281 : CS) (N_281 : CS) (Q_281 : HS) (x6_281 : Int32) (x7_281 : Int32) : Bool × CS × CS × HS × CS := (l_L_areIfsSo_287 M a2 a3 z3 E_281 F_281 x6_281 x7_281 4 N_281 Q_281 0 0)
def oj_L_areIfsSo_281 (M : CS) (a2 : Int32) (a3 : Int32) (z3 : Int32 × CS) (E_281 : CS) (F_281 : CS) (N_281 : CS) (Q_281 : HS) (x6_281 : Int32) (x7_281 : Int32) : Prop := (ol_L_areIfsSo_287 M a2 a3 z3 E_281 x6_281 x7_281 4 N_281 Q_281 0 0)
def j_L_areIfsSo_276 (M : CS) (a2 : Int32) (a3 : Int32) (z3 : Int32 × CS) (y0_64 : Int32) (F_244 : CS) (N_244 : CS) (Q_244 : HS) (E_276 : CS) (y0_276 : Int32) : Bool × CS × CS × HS × CS := (j_L_areIfsSo_281 M a2 a3 z3 E_276 F_244 N_244 Q_244 y0_276 (y0_64 + 1))
def oj_L_areIfsSo_276 (M : CS) (a2 : Int32) (a3 : Int32) (z3 : Int32 × CS) (y0_64 : Int32) (F_244 : CS) (N_244 : CS) (Q_244 : HS) (E_276 : CS) (y0_276 : Int32) : Prop := (oj_L_areIfsSo_281 M a2 a3 z3 E_276 F_244 N_244 Q_244 y0_276 (y0_64 + 1))
def j_L_areIfsSo_244 (M : CS) (O : CS) (a2 : Int32) (a3 : Int32) (z3 : Int32 × CS) (y0_64 : Int32) (N_80 : CS) (y0_196 : Int32) (E_244 : CS) (F_244 : CS) (N_244 : CS) (Q_244 : HS) (y0_244 : Int32) : Bool × CS × CS × HS × CS := (if y0_196 = 0 then (j_L_areIfsSo_276 M a2 a3 z3 y0_64 F_244 N_244 Q_244 E_244 0) else (bind1 (f_X6_count M N_244 Q_244 E_244 O 2) (fun z24 => (if z24.1 = (f_X6_ifCut M N_80 a2) then (bind1 (f_X6_count M N_244 Q_244 z24.2 O 1) (fun z26 => (if y0_244 = z26.1 then (j_L_areIfsSo_276 M a2 a3 z3 y0_64 F_244 N_244 Q_244 z26.2 1) else (j_L_areIfsSo_276 M a2 a3 z3 y0_64 F_244 N_244 Q_244 z26.2 0)))) else (j_L_areIfsSo_276 M a2 a3 z3 y0_64 F_244 N_244 Q_244 z24.2 0)))))
def oj_L_areIfsSo_244 (M : CS) (O : CS) (a2 : Int32) (a3 : Int32) (z3 : Int32 × CS) (y0_64 : Int32) (N_80 : CS) (y0_196 : Int32) (E_244 : CS) (F_244 : CS) (N_244 : CS) (Q_244 : HS) (y0_244 : Int32) : Prop := ((y0_196 = 0 → (oj_L_areIfsSo_276 M a2 a3 z3 y0_64 F_244 N_244 Q_244 E_244 0)) ∧ (¬ (y0_196 = 0) → (bind1 (f_X6_count M N_244 Q_244 E_244 O 2) (fun z24 => ((z24.1 = (f_X6_ifCut M N_80 a2) → (bind1 (f_X6_count M N_244 Q_244 z24.2 O 1) (fun z26 => ((y0_244 = z26.1 → (oj_L_areIfsSo_276 M a2 a3 z3 y0_64 F_244 N_244 Q_244 z26.2 1)) ∧ (¬ (y0_244 = z26.1) → (oj_L_areIfsSo_276 M a2 a3 z3 y0_64 F_244 N_244 Q_244 z26.2 0)))))) ∧ (¬ (z24.1 = (f_X6_ifCut M N_80 a2)) → (oj_L_areIfsSo_276 M a2 a3 z3 y0_64 F_244 N_244 Q_244 z24.2 0)))))))
def j_L_areIfsSo_224 (M : CS) (O : CS) (a2 : Int32) (a3 : Int32) (z3 : Int32 × CS) (y0_64 : Int32) (F_80 : CS) (N_80 : CS) (Q_80 : HS) (y0_196 : Int32) (z22 : Int32 × CS) (y0_224 : Int32) : Bool × CS × CS × HS × CS := (if y0_224 = 0 then (bind1 (f_X6_join M N_80 F_80 Q_80 z22.2 a2) (fun z30 => (j_L_areIfsSo_244 M O a2 a3 z3 y0_64 N_80 y0_196 z30.2.2.2.2 z30.2.2.1 z30.2.1 z30.2.2.2.1 z30.1))) else (bind1 (f_X6_cut M N_80 F_80 Q_80 z22.2 a2) (fun z32 => (j_L_areIfsSo_244 M O a2 a3 z3 y0_64 N_80 y0_196 z32.2.2.2.2 z32.2.2.1 z32.2.1 z32.2.2.2.1 z32.1))))
def oj_L_areIfsSo_224 (M : CS) (O : CS) (a2 : Int32) (a3 : Int32) (z3 : Int32 × CS) (y0_64 : Int32) (F_80 : CS) (N_80 : CS) (Q_80 : HS) (y0_196 : Int32) (z22 : Int32 × CS) (y0_224 : Int32) : Prop := ((y0_224 = 0 → ((o_X6_join M N_80 F_80 Q_80 z22.2 a2) ∧ (bind1 (f_X6_join M N_80 F_80 Q_80 z22.2 a2) (fun z30 => (oj_L_areIfsSo_244 M O a2 a3 z3 y0_64 N_80 y0_196 z30.2.2.2.2 z30.2.2.1 z30.2.1 z30.2.2.2.1 z30.1))))) ∧ (¬ (y0_224 = 0) → ((o_X6_cut M N_80 F_80 Q_80 z22.2 a2) ∧ (bind1 (f_X6_cut M N_80 F_80 Q_80 z22.2 a2) (fun z32 => (oj_L_areIfsSo_244 M O a2 a3 z3 y0_64 N_80 y0_196 z32.2.2.2.2 z32.2.2.1 z32.2.1 z32.2.2.2.1 z32.1))))))
def j_L_areIfsSo_196 (M : CS) (O : CS) (a2 : Int32) (a3 : Int32) (z3 : Int32 × CS) (y0_64 : Int32) (F_80 : CS) (N_80 : CS) (Q_80 : HS) (E_174 : CS) (y0_196 : Int32) : Bool × CS × CS × HS × CS := (if 0 < a2 then (bind1 (f_X6_version M N_80 E_174 a2 1) (fun z22 => (if z22.1 = 1 then (j_L_areIfsSo_224 M O a2 a3 z3 y0_64 F_80 N_80 Q_80 y0_196 z22 1) else (j_L_areIfsSo_224 M O a2 a3 z3 y0_64 F_80 N_80 Q_80 y0_196 z22 0)))) else (j_L_areIfsSo_281 M a2 a3 z3 E_174 F_80 N_80 Q_80 y0_196 y0_64))
def oj_L_areIfsSo_196 (M : CS) (O : CS) (a2 : Int32) (a3 : Int32) (z3 : Int32 × CS) (y0_64 : Int32) (F_80 : CS) (N_80 : CS) (Q_80 : HS) (E_174 : CS) (y0_196 : Int32) : Prop := ((0 < a2 → (bind1 (f_X6_version M N_80 E_174 a2 1) (fun z22 => ((z22.1 = 1 → (oj_L_areIfsSo_224 M O a2 a3 z3 y0_64 F_80 N_80 Q_80 y0_196 z22 1)) ∧ (¬ (z22.1 = 1) → (oj_L_areIfsSo_224 M O a2 a3 z3 y0_64 F_80 N_80 Q_80 y0_196 z22 0)))))) ∧ (¬ (0 < a2) → (oj_L_areIfsSo_281 M a2 a3 z3 E_174 F_80 N_80 Q_80 y0_196 y0_64)))
def k_L_areIfsSo_174 (M : CS) (O : CS) (a2 : Int32) (a3 : Int32) (z3 : Int32 × CS) (y0_64 : Int32) (F_80 : CS) (N_80 : CS) (Q_80 : HS) (y0_80 : Int32) (E_174 : CS) (x6_174 : Int32) (x9_174 : Int32) : Bool × CS × CS × HS × CS := (if x6_174 = 0 then (j_L_areIfsSo_196 M O a2 a3 z3 y0_64 F_80 N_80 Q_80 E_174 0) else (if x9_174 = z3.1 then (if y0_80 < 0 then (j_L_areIfsSo_196 M O a2 a3 z3 y0_64 F_80 N_80 Q_80 E_174 0) else (j_L_areIfsSo_196 M O a2 a3 z3 y0_64 F_80 N_80 Q_80 E_174 1)) else (j_L_areIfsSo_196 M O a2 a3 z3 y0_64 F_80 N_80 Q_80 E_174 0)))
def ok_L_areIfsSo_174 (M : CS) (O : CS) (a2 : Int32) (a3 : Int32) (z3 : Int32 × CS) (y0_64 : Int32) (F_80 : CS) (N_80 : CS) (Q_80 : HS) (y0_80 : Int32) (E_174 : CS) (x6_174 : Int32) (x9_174 : Int32) : Prop := ((x6_174 = 0 → (oj_L_areIfsSo_196 M O a2 a3 z3 y0_64 F_80 N_80 Q_80 E_174 0)) ∧ (¬ (x6_174 = 0) → ((x9_174 = z3.1 → ((y0_80 < 0 → (oj_L_areIfsSo_196 M O a2 a3 z3 y0_64 F_80 N_80 Q_80 E_174 0)) ∧ (¬ (y0_80 < 0) → (oj_L_areIfsSo_196 M O a2 a3 z3 y0_64 F_80 N_80 Q_80 E_174 1)))) ∧ (¬ (x9_174 = z3.1) → (oj_L_areIfsSo_196 M O a2 a3 z3 y0_64 F_80 N_80 Q_80 E_174 0)))))
def j_L_areIfsSo_168 (rec_l_L_areIfsSo_88 : CS → Nat → Int32 → Int32 → Bool × CS × CS × HS × CS) (i10_88 : Nat) (E_168 : CS) (x6_168 : Int32) (x9_168 : Int32) : Bool × CS × CS × HS × CS := (rec_l_L_areIfsSo_88 E_168 (i10_88 + 1) x6_168 x9_168)
def oj_L_areIfsSo_168 (reo_l_L_areIfsSo_88 : CS → Nat → Int32 → Int32 → Prop) (i10_88 : Nat) (E_168 : CS) (x6_168 : Int32) (x9_168 : Int32) : Prop := (reo_l_L_areIfsSo_88 E_168 (i10_88 + 1) x6_168 x9_168)
def j_L_areIfsSo_166 (rec_l_L_areIfsSo_88 : CS → Nat → Int32 → Int32 → Bool × CS × CS × HS × CS) (i10_88 : Nat) (x9_88 : Int32) (z40 : Int32 × CS) (z41 : Int32 × CS) (E_166 : CS) (y0_166 : Int32) : Bool × CS × CS × HS × CS := (j_L_areIfsSo_168 rec_l_L_areIfsSo_88 i10_88 E_166 y0_166 (x9_88 + (z40.1 * z41.1)))
def oj_L_areIfsSo_166 (reo_l_L_areIfsSo_88 : CS → Nat → Int32 → Int32 → Prop) (i10_88 : Nat) (x9_88 : Int32) (z40 : Int32 × CS) (z41 : Int32 × CS) (E_166 : CS) (y0_166 : Int32) : Prop := (oj_L_areIfsSo_168 reo_l_L_areIfsSo_88 i10_88 E_166 y0_166 (x9_88 + (z40.1 * z41.1)))
def l_L_areIfsSo_88 (M : CS) (O : CS) (a2 : Int32) (a3 : Int32) (z1 : Int32 × CS) (z2 : Int32 × CS) (z3 : Int32 × CS) (y0_64 : Int32) (F_80 : CS) (N_80 : CS) (Q_80 : HS) (y0_80 : Int32) : Nat → CS → Nat → Int32 → Int32 → Bool × CS × CS × HS × CS
  | 0, _, _, _, _ => (false, dfCS, dfCS, dfHS, dfCS)
  | n88 + 1, E_88, i10_88, x6_88, x9_88 => (if i10_88 < 24 then (bind1 (f_X6_version M N_80 E_88 (nI i10_88) 3) (fun z38 => (if z38.1 = a2 then (bind1 (f_X6_version M N_80 z38.2 (nI i10_88) 6) (fun z40 => (bind1 (f_X6_version M N_80 z40.2 (nI i10_88) 9) (fun z41 => (if x6_88 = 0 then (j_L_areIfsSo_166 (fun E_88 i10_88 x6_88 x9_88 => l_L_areIfsSo_88 M O a2 a3 z1 z2 z3 y0_64 F_80 N_80 Q_80 y0_80 n88 E_88 i10_88 x6_88 x9_88) i10_88 x9_88 z40 z41 z41.2 0) else (bind1 (f_X6_ifRoot M N_80 z41.2 (nI i10_88)) (fun z43 => (if z43.1 < z2.1 then (j_L_areIfsSo_166 (fun E_88 i10_88 x6_88 x9_88 => l_L_areIfsSo_88 M O a2 a3 z1 z2 z3 y0_64 F_80 N_80 Q_80 y0_80 n88 E_88 i10_88 x6_88 x9_88) i10_88 x9_88 z40 z41 z43.2 0) else (bind1 (f_X6_ifRoot M N_80 z43.2 (nI i10_88)) (fun z45 => (if z2.1 < z45.1 then (j_L_areIfsSo_166 (fun E_88 i10_88 x6_88 x9_88 => l_L_areIfsSo_88 M O a2 a3 z1 z2 z3 y0_64 F_80 N_80 Q_80 y0_80 n88 E_88 i10_88 x6_88 x9_88) i10_88 x9_88 z40 z41 z45.2 1) else (if (nI i10_88) < z1.1 then (j_L_areIfsSo_166 (fun E_88 i10_88 x6_88 x9_88 => l_L_areIfsSo_88 M O a2 a3 z1 z2 z3 y0_64 F_80 N_80 Q_80 y0_80 n88 E_88 i10_88 x6_88 x9_88) i10_88 x9_88 z40 z41 z45.2 0) else (j_L_areIfsSo_166 (fun E_88 i10_88 x6_88 x9_88 => l_L_areIfsSo_88 M O a2 a3 z1 z2 z3 y0_64 F_80 N_80 Q_80 y0_80 n88 E_88 i10_88 x6_88 x9_88) i10_88 x9_88 z40 z41 z45.2 1))))))))))))) else (j_L_areIfsSo_168 (fun E_88 i10_88 x6_88 x9_88 => l_L_areIfsSo_88 M O a2 a3 z1 z2 z3 y0_64 F_80 N_80 Q_80 y0_80 n88 E_88 i10_88 x6_88 x9_88) i10_88 z38.2 x6_88 x9_88)))) else (k_L_areIfsSo_174 M O a2 a3 z3 y0_64 F_80 N_80 Q_80 y0_80 E_88 x6_88 x9_88))
def ol_L_areIfsSo_88 (M : CS) (O : CS) (a2 : Int32) (a3 : Int32) (z1 : Int32 × CS) (z2 : Int32 × CS) (z3 : Int32 × CS) (y0_64 : Int32) (F_80 : CS) (N_80 : CS) (Q_80 : HS) (y0_80 : Int32) : Nat → CS → Nat → Int32 → Int32 → Prop
  | 0, _, _, _, _ => True
  | n88 + 1, E_88, i10_88, x6_88, x9_88 => ((i10_88 < 24 → (bind1 (f_X6_version M N_80 E_88 (nI i10_88) 3) (fun z38 => ((z38.1 = a2 → (bind1 (f_X6_version M N_80 z38.2 (nI i10_88) 6) (fun z40 => (bind1 (f_X6_version M N_80 z40.2 (nI i10_88) 9) (fun z41 => ((x6_88 = 0 → (oj_L_areIfsSo_166 (fun E_88 i10_88 x6_88 x9_88 => ol_L_areIfsSo_88 M O a2 a3 z1 z2 z3 y0_64 F_80 N_80 Q_80 y0_80 n88 E_88 i10_88 x6_88 x9_88) i10_88 x9_88 z40 z41 z41.2 0)) ∧ (¬ (x6_88 = 0) → (bind1 (f_X6_ifRoot M N_80 z41.2 (nI i10_88)) (fun z43 => ((z43.1 < z2.1 → (oj_L_areIfsSo_166 (fun E_88 i10_88 x6_88 x9_88 => ol_L_areIfsSo_88 M O a2 a3 z1 z2 z3 y0_64 F_80 N_80 Q_80 y0_80 n88 E_88 i10_88 x6_88 x9_88) i10_88 x9_88 z40 z41 z43.2 0)) ∧ (¬ (z43.1 < z2.1) → (bind1 (f_X6_ifRoot M N_80 z43.2 (nI i10_88)) (fun z45 => ((z2.1 < z45.1 → (oj_L_areIfsSo_166 (fun E_88 i10_88 x6_88 x9_88 => ol_L_areIfsSo_88 M O a2 a3 z1 z2 z3 y0_64 F_80 N_80 Q_80 y0_80 n88 E_88 i10_88 x6_88 x9_88) i10_88 x9_88 z40 z41 z45.2 1)) ∧ (¬ (z2.1 < z45.1) → (((nI i10_88) < z1.1 → (oj_L_areIfsSo_166 (fun E_88 i10_88 x6_88 x9_88 => ol_L_areIfsSo_88 M O a2 a3 z1 z2 z3 y0_64 F_80 N_80 Q_80 y0_80 n88 E_88 i10_88 x6_88 x9_88) i10_88 x9_88 z40 z41 z45.2 0)) ∧ (¬ (nI i10_88) < z1.1 → (oj_L_areIfsSo_166 (fun E_88 i10_88 x6_88 x9_88 => ol_L_areIfsSo_88 M O a2 a3 z1 z2 z3 y0_64 F_80 N_80 Q_80 y0_80 n88 E_88 i10_88 x6_88 x9_88) i10_88 x9_88 z40 z41 z45.2 1)))))))))))))))))) ∧ (¬ (z38.1 = a2) → (oj_L_areIfsSo_168 (fun E_88 i10_88 x6_88 x9_88 => ol_L_areIfsSo_88 M O a2 a3 z1 z2 z3 y0_64 F_80 N_80 Q_80 y0_80 n88 E_88 i10_88 x6_88 x9_88) i10_88 z38.2 x6_88 x9_88)))))) ∧ (¬ (i10_88 < 24) → (ok_L_areIfsSo_174 M O a2 a3 z3 y0_64 F_80 N_80 Q_80 y0_80 E_88 x6_88 x9_88)))
def j_L_areIfsSo_80 (M : CS) (O : CS) (a2 : Int32) (a3 : Int32) (z1 : Int32 × CS) (z2 : Int32 × CS) (z3 : Int32 × CS) (y0_47 : Int32) (y0_64 : Int32) (E_80 : CS) (F_80 : CS) (N_80 : CS) (Q_80 : HS) (y0_80 : Int32) : Bool × CS × CS × HS × CS := (l_L_areIfsSo_88 M O a2 a3 z1 z2 z3 y0_64 F_80 N_80 Q_80 y0_80 25 E_80 0 y0_47 0)
def oj_L_areIfsSo_80 (M : CS) (O : CS) (a2 : Int32) (a3 : Int32) (z1 : Int32 × CS) (z2 : Int32 × CS) (z3 : Int32 × CS) (y0_47 : Int32) (y0_64 : Int32) (E_80 : CS) (F_80 : CS) (N_80 : CS) (Q_80 : HS) (y0_80 : Int32) : Prop := (ol_L_areIfsSo_88 M O a2 a3 z1 z2 z3 y0_64 F_80 N_80 Q_80 y0_80 25 E_80 0 y0_47 0)
def j_L_areIfsSo_64 (M : CS) (N : CS) (F : CS) (Q : HS) (O : CS) (a2 : Int32) (a3 : Int32) (z1 : Int32 × CS) (z2 : Int32 × CS) (z3 : Int32 × CS) (y0_47 : Int32) (z6 : Int32 × CS) (y0_64 : Int32) : Bool × CS × CS × HS × CS := (if y0_64 = 0 then (j_L_areIfsSo_80 M O a2 a3 z1 z2 z3 y0_47 y0_64 z6.2 F N Q 0) else (bind1 (f_X6_root M N F Q z6.2 a2) (fun z50 => (j_L_areIfsSo_80 M O a2 a3 z1 z2 z3 y0_47 y0_64 z50.2.2.2.2 z50.2.2.1 z50.2.1 z50.2.2.2.1 z50.1))))
def oj_L_areIfsSo_64 (M : CS) (N : CS) (F : CS) (Q : HS) (O : CS) (a2 : Int32) (a3 : Int32) (z1 : Int32 × CS) (z2 : Int32 × CS) (z3 : Int32 × CS) (y0_47 : Int32) (z6 : Int32 × CS) (y0_64 : Int32) : Prop := ((y0_64 = 0 → (oj_L_areIfsSo_80 M O a2 a3 z1 z2 z3 y0_47 y0_64 z6.2 F N Q 0)) ∧ (¬ (y0_64 = 0) → ((o_X6_root M N F Q z6.2 a2) ∧ (bind1 (f_X6_root M N F Q z6.2 a2) (fun z50 => (oj_L_areIfsSo_80 M O a2 a3 z1 z2 z3 y0_47 y0_64 z50.2.2.2.2 z50.2.2.1 z50.2.1 z50.2.2.2.1 z50.1))))))
def j_L_areIfsSo_47 (M : CS) (N : CS) (F : CS) (Q : HS) (O : CS) (a2 : Int32) (a3 : Int32) (z1 : Int32 × CS) (z2 : Int32 × CS) (z3 : Int32 × CS) (z5 : Int32 × CS) (y0_47 : Int32) : Bool × CS × CS × HS × CS := (bind1 (f_X6_version M N z5.2 a2 3) (fun z6 => (if z6.1 = a2 then (j_L_areIfsSo_64 M N F Q O a2 a3 z1 z2 z3 y0_47 z6 0) else (j_L_areIfsSo_64 M N F Q O a2 a3 z1 z2 z3 y0_47 z6 1))))
def oj_L_areIfsSo_47 (M : CS) (N : CS) (F : CS) (Q : HS) (O : CS) (a2 : Int32) (a3 : Int32) (z1 : Int32 × CS) (z2 : Int32 × CS) (z3 : Int32 × CS) (z5 : Int32 × CS) (y0_47 : Int32) : Prop := (bind1 (f_X6_version M N z5.2 a2 3) (fun z6 => ((z6.1 = a2 → (oj_L_areIfsSo_64 M N F Q O a2 a3 z1 z2 z3 y0_47 z6 0)) ∧ (¬ (z6.1 = a2) → (oj_L_areIfsSo_64 M N F Q O a2 a3 z1 z2 z3 y0_47 z6 1)))))
def f_L_areIfsSo (M : CS) (N : CS) (F : CS) (Q : HS) (E : CS) (O : CS) (a2 : Int32) (a3 : Int32) : Bool × CS × CS × HS × CS := (bind1 (f_X6_bestRoot M N E a2) (fun z1 => (bind1 (f_X6_ifRoot M N z1.2 z1.1) (fun z2 => (bind1 (f_X6_ifRoot M N z2.2 a2) (fun z3 => (bind1 (f_X6_version M N z3.2 z1.1 3) (fun z4 => (bind1 (f_X6_version M N z4.2 a2 3) (fun z5 => (if z4.1 = z5.1 then (if z3.1 < z2.1 then (j_L_areIfsSo_47 M N F Q O a2 a3 z1 z2 z3 z5 0) else (j_L_areIfsSo_47 M N F Q O a2 a3 z1 z2 z3 z5 1)) else (j_L_areIfsSo_47 M N F Q O a2 a3 z1 z2 z3 z5 0))))))))))))
def o_L_areIfsSo (M : CS) (N : CS) (F : CS) (Q : HS) (E : CS) (O : CS) (a2 : Int32) (a3 : Int32) : Prop := (bind1 (f_X6_bestRoot M N E a2) (fun z1 => (bind1 (f_X6_ifRoot M N z1.2 z1.1) (fun z2 => (bind1 (f_X6_ifRoot M N z2.2 a2) (fun z3 => (bind1 (f_X6_version M N z3.2 z1.1 3) (fun z4 => (bind1 (f_X6_version M N z4.2 a2 3) (fun z5 => ((z4.1 = z5.1 → ((z3.1 < z2.1 → (oj_L_areIfsSo_47 M N F Q O a2 a3 z1 z2 z3 z5 0)) ∧ (¬ (z3.1 < z2.1) → (oj_L_areIfsSo_47 M N F Q O a2 a3 z1 z2 z3 z5 1)))) ∧ (¬ (z4.1 = z5.1) → (oj_L_areIfsSo_47 M N F Q O a2 a3 z1 z2 z3 z5 0)))))))))))))
set_option maxRecDepth 100000 in
set_option maxHeartbeats 8000000 in
theorem c_L_areIfsSo (l : Launch) (g : GT) (h : Nat) (ad : Nat → Nat) (M : CS) (adN : Nat → Nat) (N : CS) (adF : Nat → Nat) (F : CS) (adQ : Nat → Nat) (Q : HS) (adE : Nat → Nat) (E : CS) (adO : Nat → Nat) (O : CS) (a2 : Int32) (a3 : Int32) (hok : o_L_areIfsSo M N F Q E O a2 a3) : CW l yL_areIfsSo (.code yL_areIfsSo cL_areIfsSo 14 (some .boolean)) 6 g [.ref h, .int a2, .int a3] (cat [wMa h ad M, wSt g (ad 0) adN N, wSt g (ad 1) adF F, wHi g (ad 4) adQ Q, wRe g (ad 5) adE E, wOr g (ad 6) adO O]) (some (.int (bI (f_L_areIfsSo M N F Q E O a2 a3).1))) (cat [wMa h ad M, wSt g (ad 0) adN (f_L_areIfsSo M N F Q E O a2 a3).2.1, wSt g (ad 1) adF (f_L_areIfsSo M N F Q E O a2 a3).2.2.1, wHi g (ad 4) adQ (f_L_areIfsSo M N F Q E O a2 a3).2.2.2.1, wRe g (ad 5) adE (f_L_areIfsSo M N F Q E O a2 a3).2.2.2.2, wOr g (ad 6) adO O]) := by
  obtain ⟨RES, hRES⟩ : ∃ z, z = (f_L_areIfsSo M N F Q E O a2 a3) := ⟨_, rfl⟩
  rw [← hRES]
  unfold f_L_areIfsSo at hRES
  unfold o_L_areIfsSo at hok
  refine CWx.of (nL := 14) (ret := (some .boolean)) (own := RL) (cc := cL_areIfsSo) rfl (by decide) rfl (List.forall_mem_cons.mpr ⟨rfl, (List.forall_mem_cons.mpr ⟨rfl, (List.forall_mem_cons.mpr ⟨rfl, (fun _ h => absurd h List.not_mem_nil)⟩)⟩)⟩) (Nat.le_of_ble_eq_true rfl) ?_
  intro k C B hin hkl hkg
  subst hkl; subst hkg
  refine x_loc2 (L' := [some (.ref h), some (.int a2), some (.int a3), none, none, none, none, none, none, none, none, none, none, none]) rfl ?_
  refine x_aload_n (pc' := 1) C dL_areIfsSo_0 rfl rfl rfl ?_
  refine x_iload_n (pc' := 2) C dL_areIfsSo_1 rfl rfl rfl ?_
  obtain ⟨z1, ez1⟩ : ∃ z, z = (f_X6_bestRoot M N E a2) := ⟨_, rfl⟩
  replace hRES := bd hRES z1 ez1
  replace hok := bdP hok z1 ez1
  have hc := c_X6_bestRoot (kl k) (kg k) h ad M adN N adE E a2
  rw [← ez1] at hc
  refine x_catWV (st := []) (st2 := [.int z1.1]) (pc' := 5) (wcs := [wMa h ad M, wSt (kg k) (ad 0) adN N, wRe (kg k) (ad 5) adE E]) (wrs := [wSt (kg k) (ad 1) adF F, wHi (kg k) (ad 4) adQ Q, wOr (kg k) (ad 6) adO O]) (wcs' := [wMa h ad M, wSt (kg k) (ad 0) adN N, wRe (kg k) (ad 5) adE z1.2]) C B [wMa h ad M, wSt (kg k) (ad 0) adN N, wSt (kg k) (ad 1) adF F, wHi (kg k) (ad 4) adQ Q, wRe (kg k) (ad 5) adE z1.2, wOr (kg k) (ad 6) adO O] hc rfl rfl cw_L_62 ok_X6_bestRoot rfl (by decide) rfl rfl [2, 3, 5, 0, 1, 4] [3, 4, 0, 1, 5, 2] rfl rfl rfl rfl rfl (Nat.le_of_ble_eq_true rfl) (Nat.zero_le _) (Nat.zero_le _) rfl dL_areIfsSo_2 rfl rfl ?_
  refine x_istore_n (pc' := 6) (L' := [some (.ref h), some (.int a2), some (.int a3), some (.int z1.1), none, none, none, none, none, none, none, none, none, none]) C dL_areIfsSo_5 rfl rfl (Nat.le_of_ble_eq_true rfl) rfl ?_
  refine x_aload_n (pc' := 7) C dL_areIfsSo_6 rfl rfl rfl ?_
  refine x_iload_n (pc' := 8) C dL_areIfsSo_7 rfl rfl rfl ?_
  obtain ⟨z2, ez2⟩ : ∃ z, z = (f_X6_ifRoot M N z1.2 z1.1) := ⟨_, rfl⟩
  replace hRES := bd hRES z2 ez2
  replace hok := bdP hok z2 ez2
  have hc := c_X6_ifRoot (kl k) (kg k) h ad M adN N adE z1.2 z1.1
  rw [← ez2] at hc
  refine x_catWV (st := []) (st2 := [.int z2.1]) (pc' := 11) (wcs := [wMa h ad M, wSt (kg k) (ad 0) adN N, wRe (kg k) (ad 5) adE z1.2]) (wrs := [wSt (kg k) (ad 1) adF F, wHi (kg k) (ad 4) adQ Q, wOr (kg k) (ad 6) adO O]) (wcs' := [wMa h ad M, wSt (kg k) (ad 0) adN N, wRe (kg k) (ad 5) adE z2.2]) C B [wMa h ad M, wSt (kg k) (ad 0) adN N, wSt (kg k) (ad 1) adF F, wHi (kg k) (ad 4) adQ Q, wRe (kg k) (ad 5) adE z2.2, wOr (kg k) (ad 6) adO O] hc rfl rfl cw_L_65 ok_X6_ifRoot rfl (by decide) rfl rfl [2, 3, 5, 0, 1, 4] [3, 4, 0, 1, 5, 2] rfl rfl rfl rfl rfl (Nat.le_of_ble_eq_true rfl) (Nat.zero_le _) (Nat.zero_le _) rfl dL_areIfsSo_8 rfl rfl ?_
  refine x_istore (pc' := 13) (L' := [some (.ref h), some (.int a2), some (.int a3), some (.int z1.1), some (.int z2.1), none, none, none, none, none, none, none, none, none]) C dL_areIfsSo_11 rfl (Nat.le_of_ble_eq_true rfl) rfl ?_
  refine x_aload_n (pc' := 14) C dL_areIfsSo_13 rfl rfl rfl ?_
  refine x_iload_n (pc' := 15) C dL_areIfsSo_14 rfl rfl rfl ?_
  obtain ⟨z3, ez3⟩ : ∃ z, z = (f_X6_ifRoot M N z2.2 a2) := ⟨_, rfl⟩
  replace hRES := bd hRES z3 ez3
  replace hok := bdP hok z3 ez3
  have hc := c_X6_ifRoot (kl k) (kg k) h ad M adN N adE z2.2 a2
  rw [← ez3] at hc
  refine x_catWV (st := []) (st2 := [.int z3.1]) (pc' := 18) (wcs := [wMa h ad M, wSt (kg k) (ad 0) adN N, wRe (kg k) (ad 5) adE z2.2]) (wrs := [wSt (kg k) (ad 1) adF F, wHi (kg k) (ad 4) adQ Q, wOr (kg k) (ad 6) adO O]) (wcs' := [wMa h ad M, wSt (kg k) (ad 0) adN N, wRe (kg k) (ad 5) adE z3.2]) C B [wMa h ad M, wSt (kg k) (ad 0) adN N, wSt (kg k) (ad 1) adF F, wHi (kg k) (ad 4) adQ Q, wRe (kg k) (ad 5) adE z3.2, wOr (kg k) (ad 6) adO O] hc rfl rfl cw_L_65 ok_X6_ifRoot rfl (by decide) rfl rfl [2, 3, 5, 0, 1, 4] [3, 4, 0, 1, 5, 2] rfl rfl rfl rfl rfl (Nat.le_of_ble_eq_true rfl) (Nat.zero_le _) (Nat.zero_le _) rfl dL_areIfsSo_15 rfl rfl ?_
  refine x_istore (pc' := 20) (L' := [some (.ref h), some (.int a2), some (.int a3), some (.int z1.1), some (.int z2.1), some (.int z3.1), none, none, none, none, none, none, none, none]) C dL_areIfsSo_18 rfl (Nat.le_of_ble_eq_true rfl) rfl ?_
  refine x_aload_n (pc' := 21) C dL_areIfsSo_20 rfl rfl rfl ?_
  refine x_iload_n (pc' := 22) C dL_areIfsSo_21 rfl rfl rfl ?_
  refine x_iconst (v := 3) (pc' := 23) C dL_areIfsSo_22 rfl (by decide) ?_
  obtain ⟨z4, ez4⟩ : ∃ z, z = (f_X6_version M N z3.2 z1.1 3) := ⟨_, rfl⟩
  replace hRES := bd hRES z4 ez4
  replace hok := bdP hok z4 ez4
  have hc := c_X6_version (kl k) (kg k) h ad M adN N adE z3.2 z1.1 3
  rw [← ez4] at hc
  refine x_catWV (st := []) (st2 := [.int z4.1]) (pc' := 26) (wcs := [wMa h ad M, wSt (kg k) (ad 0) adN N, wRe (kg k) (ad 5) adE z3.2]) (wrs := [wSt (kg k) (ad 1) adF F, wHi (kg k) (ad 4) adQ Q, wOr (kg k) (ad 6) adO O]) (wcs' := [wMa h ad M, wSt (kg k) (ad 0) adN N, wRe (kg k) (ad 5) adE z4.2]) C B [wMa h ad M, wSt (kg k) (ad 0) adN N, wSt (kg k) (ad 1) adF F, wHi (kg k) (ad 4) adQ Q, wRe (kg k) (ad 5) adE z4.2, wOr (kg k) (ad 6) adO O] hc rfl rfl cw_L_14 ok_X6_version rfl (by decide) rfl rfl [2, 3, 5, 0, 1, 4] [3, 4, 0, 1, 5, 2] rfl rfl rfl rfl rfl (Nat.le_of_ble_eq_true rfl) (Nat.zero_le _) (Nat.zero_le _) rfl dL_areIfsSo_23 rfl rfl ?_
  refine x_aload_n (pc' := 27) C dL_areIfsSo_26 rfl rfl rfl ?_
  refine x_iload_n (pc' := 28) C dL_areIfsSo_27 rfl rfl rfl ?_
  refine x_iconst (v := 3) (pc' := 29) C dL_areIfsSo_28 rfl (by decide) ?_
  obtain ⟨z5, ez5⟩ : ∃ z, z = (f_X6_version M N z4.2 a2 3) := ⟨_, rfl⟩
  replace hRES := bd hRES z5 ez5
  replace hok := bdP hok z5 ez5
  have hc := c_X6_version (kl k) (kg k) h ad M adN N adE z4.2 a2 3
  rw [← ez5] at hc
  refine x_catWV (st := [.int z4.1]) (st2 := [.int z5.1, .int z4.1]) (pc' := 32) (wcs := [wMa h ad M, wSt (kg k) (ad 0) adN N, wRe (kg k) (ad 5) adE z4.2]) (wrs := [wSt (kg k) (ad 1) adF F, wHi (kg k) (ad 4) adQ Q, wOr (kg k) (ad 6) adO O]) (wcs' := [wMa h ad M, wSt (kg k) (ad 0) adN N, wRe (kg k) (ad 5) adE z5.2]) C B [wMa h ad M, wSt (kg k) (ad 0) adN N, wSt (kg k) (ad 1) adF F, wHi (kg k) (ad 4) adQ Q, wRe (kg k) (ad 5) adE z5.2, wOr (kg k) (ad 6) adO O] hc rfl rfl cw_L_14 ok_X6_version rfl (by decide) rfl rfl [2, 3, 5, 0, 1, 4] [3, 4, 0, 1, 5, 2] rfl rfl rfl rfl rfl (Nat.le_of_ble_eq_true rfl) (Nat.zero_le _) (Nat.zero_le _) rfl dL_areIfsSo_29 rfl rfl ?_
  have join47 : ∀ (y0_47 : Int32), RES = j_L_areIfsSo_47 M N F Q O a2 a3 z1 z2 z3 z5 y0_47 → oj_L_areIfsSo_47 M N F Q O a2 a3 z1 z2 z3 z5 y0_47 → X k 0 0 (cat [wMa h ad M, wSt (kg k) (ad 0) adN N, wSt (kg k) (ad 1) adF F, wHi (kg k) (ad 4) adQ Q, wRe (kg k) (ad 5) adE z5.2, wOr (kg k) (ad 6) adO O]) 47 [some (.ref h), some (.int a2), some (.int a3), some (.int z1.1), some (.int z2.1), some (.int z3.1), none, none, none, none, none, none, none, none] [.int y0_47] := by
    intro y0_47 hRES hok
    unfold j_L_areIfsSo_47 at hRES
    unfold oj_L_areIfsSo_47 at hok
    refine x_istore (pc' := 49) (L' := [some (.ref h), some (.int a2), some (.int a3), some (.int z1.1), some (.int z2.1), some (.int z3.1), some (.int y0_47), none, none, none, none, none, none, none]) C dL_areIfsSo_47 rfl (Nat.le_of_ble_eq_true rfl) rfl ?_
    refine x_aload_n (pc' := 50) C dL_areIfsSo_49 rfl rfl rfl ?_
    refine x_iload_n (pc' := 51) C dL_areIfsSo_50 rfl rfl rfl ?_
    refine x_iconst (v := 3) (pc' := 52) C dL_areIfsSo_51 rfl (by decide) ?_
    obtain ⟨z6, ez6⟩ : ∃ z, z = (f_X6_version M N z5.2 a2 3) := ⟨_, rfl⟩
    replace hRES := bd hRES z6 ez6
    replace hok := bdP hok z6 ez6
    have hc := c_X6_version (kl k) (kg k) h ad M adN N adE z5.2 a2 3
    rw [← ez6] at hc
    refine x_catWV (st := []) (st2 := [.int z6.1]) (pc' := 55) (wcs := [wMa h ad M, wSt (kg k) (ad 0) adN N, wRe (kg k) (ad 5) adE z5.2]) (wrs := [wSt (kg k) (ad 1) adF F, wHi (kg k) (ad 4) adQ Q, wOr (kg k) (ad 6) adO O]) (wcs' := [wMa h ad M, wSt (kg k) (ad 0) adN N, wRe (kg k) (ad 5) adE z6.2]) C B [wMa h ad M, wSt (kg k) (ad 0) adN N, wSt (kg k) (ad 1) adF F, wHi (kg k) (ad 4) adQ Q, wRe (kg k) (ad 5) adE z6.2, wOr (kg k) (ad 6) adO O] hc rfl rfl cw_L_14 ok_X6_version rfl (by decide) rfl rfl [2, 3, 5, 0, 1, 4] [3, 4, 0, 1, 5, 2] rfl rfl rfl rfl rfl (Nat.le_of_ble_eq_true rfl) (Nat.zero_le _) (Nat.zero_le _) rfl dL_areIfsSo_52 rfl rfl ?_
    refine x_iload_n (pc' := 56) C dL_areIfsSo_55 rfl rfl rfl ?_
    have join64 : ∀ (y0_64 : Int32), RES = j_L_areIfsSo_64 M N F Q O a2 a3 z1 z2 z3 y0_47 z6 y0_64 → oj_L_areIfsSo_64 M N F Q O a2 a3 z1 z2 z3 y0_47 z6 y0_64 → X k 0 0 (cat [wMa h ad M, wSt (kg k) (ad 0) adN N, wSt (kg k) (ad 1) adF F, wHi (kg k) (ad 4) adQ Q, wRe (kg k) (ad 5) adE z6.2, wOr (kg k) (ad 6) adO O]) 64 [some (.ref h), some (.int a2), some (.int a3), some (.int z1.1), some (.int z2.1), some (.int z3.1), some (.int y0_47), none, none, none, none, none, none, none] [.int y0_64] := by
      intro y0_64 hRES hok
      unfold j_L_areIfsSo_64 at hRES
      unfold oj_L_areIfsSo_64 at hok
      refine x_istore (pc' := 66) (L' := [some (.ref h), some (.int a2), some (.int a3), some (.int z1.1), some (.int z2.1), some (.int z3.1), some (.int y0_47), some (.int y0_64), none, none, none, none, none, none]) C dL_areIfsSo_64 rfl (Nat.le_of_ble_eq_true rfl) rfl ?_
      refine x_iload (pc' := 68) C dL_areIfsSo_66 rfl rfl ?_
      have join80 : ∀ (E_80 : CS) (F_80 : CS) (N_80 : CS) (Q_80 : HS) (y0_80 : Int32), RES = j_L_areIfsSo_80 M O a2 a3 z1 z2 z3 y0_47 y0_64 E_80 F_80 N_80 Q_80 y0_80 → oj_L_areIfsSo_80 M O a2 a3 z1 z2 z3 y0_47 y0_64 E_80 F_80 N_80 Q_80 y0_80 → X k 0 0 (cat [wMa h ad M, wSt (kg k) (ad 0) adN N_80, wSt (kg k) (ad 1) adF F_80, wHi (kg k) (ad 4) adQ Q_80, wRe (kg k) (ad 5) adE E_80, wOr (kg k) (ad 6) adO O]) 80 [some (.ref h), some (.int a2), some (.int a3), some (.int z1.1), some (.int z2.1), some (.int z3.1), some (.int y0_47), some (.int y0_64), none, none, none, none, none, none] [.int y0_80] := by
        intro E_80 F_80 N_80 Q_80 y0_80 hRES hok
        unfold j_L_areIfsSo_80 at hRES
        unfold oj_L_areIfsSo_80 at hok
        refine x_istore (pc' := 82) (L' := [some (.ref h), some (.int a2), some (.int a3), some (.int z1.1), some (.int z2.1), some (.int z3.1), some (.int y0_47), some (.int y0_64), some (.int y0_80), none, none, none, none, none]) C dL_areIfsSo_80 rfl (Nat.le_of_ble_eq_true rfl) rfl ?_
        refine x_iconst (v := 0) (pc' := 83) C dL_areIfsSo_82 rfl (by decide) ?_
        refine x_istore (pc' := 85) (L' := [some (.ref h), some (.int a2), some (.int a3), some (.int z1.1), some (.int z2.1), some (.int z3.1), some (.int y0_47), some (.int y0_64), some (.int y0_80), some (.int 0), none, none, none, none]) C dL_areIfsSo_83 rfl (Nat.le_of_ble_eq_true rfl) rfl ?_
        refine x_iconst (v := 0) (pc' := 86) C dL_areIfsSo_85 rfl (by decide) ?_
        refine x_istore (pc' := 88) (L' := [some (.ref h), some (.int a2), some (.int a3), some (.int z1.1), some (.int z2.1), some (.int z3.1), some (.int y0_47), some (.int y0_64), some (.int y0_80), some (.int 0), some (.int 0), none, none, none]) C dL_areIfsSo_86 rfl (Nat.le_of_ble_eq_true rfl) rfl ?_
        have cont174 : ∀ (E_174 : CS) (x6_174 : Int32) (x9_174 : Int32), RES = k_L_areIfsSo_174 M O a2 a3 z3 y0_64 F_80 N_80 Q_80 y0_80 E_174 x6_174 x9_174 → ok_L_areIfsSo_174 M O a2 a3 z3 y0_64 F_80 N_80 Q_80 y0_80 E_174 x6_174 x9_174 → X k 0 0 (cat [wMa h ad M, wSt (kg k) (ad 0) adN N_80, wSt (kg k) (ad 1) adF F_80, wHi (kg k) (ad 4) adQ Q_80, wRe (kg k) (ad 5) adE E_174, wOr (kg k) (ad 6) adO O]) 174 [some (.ref h), some (.int a2), some (.int a3), none, none, some (.int z3.1), some (.int x6_174), some (.int y0_64), some (.int y0_80), some (.int x9_174), none, none, none, none] [] := by
          intro E_174 x6_174 x9_174 hRES hok
          unfold k_L_areIfsSo_174 at hRES
          unfold ok_L_areIfsSo_174 at hok
          refine x_iload (pc' := 176) C dL_areIfsSo_174 rfl rfl ?_
          have join196 : ∀ (y0_196 : Int32), RES = j_L_areIfsSo_196 M O a2 a3 z3 y0_64 F_80 N_80 Q_80 E_174 y0_196 → oj_L_areIfsSo_196 M O a2 a3 z3 y0_64 F_80 N_80 Q_80 E_174 y0_196 → X k 0 0 (cat [wMa h ad M, wSt (kg k) (ad 0) adN N_80, wSt (kg k) (ad 1) adF F_80, wHi (kg k) (ad 4) adQ Q_80, wRe (kg k) (ad 5) adE E_174, wOr (kg k) (ad 6) adO O]) 196 [some (.ref h), some (.int a2), some (.int a3), none, none, some (.int z3.1), none, some (.int y0_64), none, none, none, none, none, none] [.int y0_196] := by
            intro y0_196 hRES hok
            unfold j_L_areIfsSo_196 at hRES
            unfold oj_L_areIfsSo_196 at hok
            refine x_istore (pc' := 198) (L' := [some (.ref h), some (.int a2), some (.int a3), none, none, some (.int z3.1), some (.int y0_196), some (.int y0_64), none, none, none, none, none, none]) C dL_areIfsSo_196 rfl (Nat.le_of_ble_eq_true rfl) rfl ?_
            refine x_iload_n (pc' := 199) C dL_areIfsSo_198 rfl rfl rfl ?_
            have join281 : ∀ (E_281 : CS) (F_281 : CS) (N_281 : CS) (Q_281 : HS) (x6_281 : Int32) (x7_281 : Int32), RES = j_L_areIfsSo_281 M a2 a3 z3 E_281 F_281 N_281 Q_281 x6_281 x7_281 → oj_L_areIfsSo_281 M a2 a3 z3 E_281 F_281 N_281 Q_281 x6_281 x7_281 → X k 0 0 (cat [wMa h ad M, wSt (kg k) (ad 0) adN N_281, wSt (kg k) (ad 1) adF F_281, wHi (kg k) (ad 4) adQ Q_281, wRe (kg k) (ad 5) adE E_281, wOr (kg k) (ad 6) adO O]) 281 [some (.ref h), some (.int a2), some (.int a3), none, none, some (.int z3.1), some (.int x6_281), some (.int x7_281), none, none, none, none, none, none] [] := by
              intro E_281 F_281 N_281 Q_281 x6_281 x7_281 hRES hok
              unfold j_L_areIfsSo_281 at hRES
              unfold oj_L_areIfsSo_281 at hok
              refine x_iconst (v := 0) (pc' := 282) C dL_areIfsSo_281 rfl (by decide) ?_
              refine x_istore (pc' := 284) (L' := [some (.ref h), some (.int a2), some (.int a3), none, none, some (.int z3.1), some (.int x6_281), some (.int x7_281), none, none, some (.int 0), none, none, none]) C dL_areIfsSo_282 rfl (Nat.le_of_ble_eq_true rfl) rfl ?_
              refine x_iconst (v := 0) (pc' := 285) C dL_areIfsSo_284 rfl (by decide) ?_
              refine x_istore (pc' := 287) (L' := [some (.ref h), some (.int a2), some (.int a3), none, none, some (.int z3.1), some (.int x6_281), some (.int x7_281), none, none, some (.int 0), some (.int 0), none, none]) C dL_areIfsSo_285 rfl (Nat.le_of_ble_eq_true rfl) rfl ?_
              have cont306 : ∀ (N_306 : CS) (Q_306 : HS) (x10_306 : Int32), RES = k_L_areIfsSo_306 M a2 a3 z3 E_281 F_281 x6_281 N_306 Q_306 x10_306 → ok_L_areIfsSo_306 M a2 a3 z3 E_281 x6_281 N_306 Q_306 x10_306 → X k 0 0 (cat [wMa h ad M, wSt (kg k) (ad 0) adN N_306, wSt (kg k) (ad 1) adF F_281, wHi (kg k) (ad 4) adQ Q_306, wRe (kg k) (ad 5) adE E_281, wOr (kg k) (ad 6) adO O]) 306 [some (.ref h), some (.int a2), some (.int a3), none, none, some (.int z3.1), some (.int x6_281), none, none, none, some (.int x10_306), none, none, none] [] := by
                intro N_306 Q_306 x10_306 hRES hok
                unfold k_L_areIfsSo_306 at hRES
                unfold ok_L_areIfsSo_306 at hok
                refine x_aload_n (pc' := 307) C dL_areIfsSo_306 rfl rfl rfl ?_
                refine x_iload_n (pc' := 308) C dL_areIfsSo_307 rfl rfl rfl ?_
                refine x_iload_n (pc' := 309) C dL_areIfsSo_308 rfl rfl rfl ?_
                refine x_catRV (st := []) (st2 := [.int (f_X6_common M N_306 a2 a3)]) (pc' := 312) (wcs := [wMa h ad M, wSt (kg k) (ad 0) adN N_306]) C (c_X6_common (kl k) (kg k) h ad M adN N_306 a2 a3) rfl cw_L_71 ok_X6_common rfl (by decide) rfl rfl [0, 1] rfl rfl rfl (Nat.le_of_ble_eq_true rfl) (Nat.zero_le _) (Nat.zero_le _) rfl dL_areIfsSo_309 rfl rfl ?_
                refine x_istore (pc' := 314) (L' := [some (.ref h), some (.int a2), some (.int a3), none, none, some (.int z3.1), some (.int x6_281), none, none, none, some (.int x10_306), some (.int (f_X6_common M N_306 a2 a3)), none, none]) C dL_areIfsSo_312 rfl (Nat.le_of_ble_eq_true rfl) rfl ?_
                refine x_iload_n (pc' := 315) C dL_areIfsSo_314 rfl rfl rfl ?_
                refine x_istore (pc' := 317) (L' := [some (.ref h), some (.int a2), some (.int a3), none, none, some (.int z3.1), some (.int x6_281), none, none, none, some (.int x10_306), some (.int (f_X6_common M N_306 a2 a3)), some (.int a3), none]) C dL_areIfsSo_315 rfl (Nat.le_of_ble_eq_true rfl) rfl ?_
                refine x_iconst (v := 0) (pc' := 318) C dL_areIfsSo_317 rfl (by decide) ?_
                refine x_istore (pc' := 320) (L' := [some (.ref h), some (.int a2), some (.int a3), none, none, some (.int z3.1), some (.int x6_281), none, none, none, some (.int x10_306), some (.int (f_X6_common M N_306 a2 a3)), some (.int a3), some (.int 0)]) C dL_areIfsSo_318 rfl (Nat.le_of_ble_eq_true rfl) rfl ?_
                have cont354 : ∀ (E_354 : CS) (x12_354 : Int32), RES = k_L_areIfsSo_354 M a2 a3 z3 F_281 x6_281 N_306 Q_306 x10_306 E_354 x12_354 → ok_L_areIfsSo_354 M a2 a3 z3 x6_281 N_306 x10_306 E_354 x12_354 → X k 0 0 (cat [wMa h ad M, wSt (kg k) (ad 0) adN N_306, wSt (kg k) (ad 1) adF F_281, wHi (kg k) (ad 4) adQ Q_306, wRe (kg k) (ad 5) adE E_354, wOr (kg k) (ad 6) adO O]) 354 [some (.ref h), some (.int a2), some (.int a3), none, none, some (.int z3.1), some (.int x6_281), none, none, none, some (.int x10_306), some (.int (f_X6_common M N_306 a2 a3)), some (.int x12_354), none] [] := by
                  intro E_354 x12_354 hRES hok
                  unfold k_L_areIfsSo_354 at hRES
                  unfold ok_L_areIfsSo_354 at hok
                  refine x_iload (pc' := 356) C dL_areIfsSo_354 rfl rfl ?_
                  refine x_if_eq (tgt := 411) (pc' := 359) C dL_areIfsSo_356 (by decide) rfl (fun c7 => ?_) (fun c7 => ?_)
                  · rw [if_pos c7] at hRES
                    replace hok := hok.1 c7
                    refine x_iconst (v := 0) (pc' := 412) C dL_areIfsSo_411 rfl (by decide) ?_
                    exact x_zret (b := false) C (Nat.zero_le _) (Nat.zero_le _) dL_areIfsSo_412 ⟨by rw [hRES], by rw [hRES]⟩
                  · rw [if_neg c7] at hRES
                    replace hok := hok.2 c7
                    refine x_iload (pc' := 361) C dL_areIfsSo_359 rfl rfl ?_
                    refine x_if_lt (tgt := 411) (pc' := 364) C dL_areIfsSo_361 (by decide) rfl (fun c8 => ?_) (fun c8 => ?_)
                    · rw [if_pos c8] at hRES
                      replace hok := hok.1 c8
                      refine x_iconst (v := 0) (pc' := 412) C dL_areIfsSo_411 rfl (by decide) ?_
                      exact x_zret (b := false) C (Nat.zero_le _) (Nat.zero_le _) dL_areIfsSo_412 ⟨by rw [hRES], by rw [hRES]⟩
                    · rw [if_neg c8] at hRES
                      replace hok := hok.2 c8
                      refine x_iload (pc' := 366) C dL_areIfsSo_364 rfl rfl ?_
                      refine x_iload (pc' := 368) C dL_areIfsSo_366 rfl rfl ?_
                      refine x_icmp_ne (tgt := 411) (pc' := 371) C dL_areIfsSo_368 (by decide) rfl (fun c9 => ?_) (fun c9 => ?_)
                      · rw [if_neg c9] at hRES
                        replace hok := hok.2 c9
                        refine x_iconst (v := 0) (pc' := 412) C dL_areIfsSo_411 rfl (by decide) ?_
                        exact x_zret (b := false) C (Nat.zero_le _) (Nat.zero_le _) dL_areIfsSo_412 ⟨by rw [hRES], by rw [hRES]⟩
                      · rw [if_pos c9] at hRES
                        replace hok := hok.1 c9
                        refine x_aload_n (pc' := 372) C dL_areIfsSo_371 rfl rfl rfl ?_
                        refine x_iload_n (pc' := 373) C dL_areIfsSo_372 rfl rfl rfl ?_
                        refine x_iload_n (pc' := 374) C dL_areIfsSo_373 rfl rfl rfl ?_
                        refine x_catRV (st := []) (st2 := [.int (f_X6_common M N_306 a3 a2)]) (pc' := 377) (wcs := [wMa h ad M, wSt (kg k) (ad 0) adN N_306]) C (c_X6_common (kl k) (kg k) h ad M adN N_306 a3 a2) rfl cw_L_71 ok_X6_common rfl (by decide) rfl rfl [0, 1] rfl rfl rfl (Nat.le_of_ble_eq_true rfl) (Nat.zero_le _) (Nat.zero_le _) rfl dL_areIfsSo_374 rfl rfl ?_
                        refine x_iload (pc' := 379) C dL_areIfsSo_377 rfl rfl ?_
                        refine x_icmp_ne (tgt := 411) (pc' := 382) C dL_areIfsSo_379 (by decide) rfl (fun c10 => ?_) (fun c10 => ?_)
                        · rw [if_neg c10] at hRES
                          replace hok := hok.2 c10
                          refine x_iconst (v := 0) (pc' := 412) C dL_areIfsSo_411 rfl (by decide) ?_
                          exact x_zret (b := false) C (Nat.zero_le _) (Nat.zero_le _) dL_areIfsSo_412 ⟨by rw [hRES], by rw [hRES]⟩
                        · rw [if_pos c10] at hRES
                          replace hok := hok.1 c10
                          refine x_aload_n (pc' := 383) C dL_areIfsSo_382 rfl rfl rfl ?_
                          refine x_iload_n (pc' := 384) C dL_areIfsSo_383 rfl rfl rfl ?_
                          refine x_iload_n (pc' := 385) C dL_areIfsSo_384 rfl rfl rfl ?_
                          refine x_catRV (st := []) (st2 := [.int (f_X6_unlike M N_306 a2 a3)]) (pc' := 388) (wcs := [wMa h ad M, wSt (kg k) (ad 0) adN N_306]) C (c_X6_unlike (kl k) (kg k) h ad M adN N_306 a2 a3) rfl cw_L_52 ok_X6_unlike rfl (by decide) rfl rfl [0, 1] rfl rfl rfl (Nat.le_of_ble_eq_true rfl) (Nat.zero_le _) (Nat.zero_le _) rfl dL_areIfsSo_385 rfl rfl ?_
                          refine x_aload_n (pc' := 389) C dL_areIfsSo_388 rfl rfl rfl ?_
                          refine x_iload_n (pc' := 390) C dL_areIfsSo_389 rfl rfl rfl ?_
                          refine x_iload_n (pc' := 391) C dL_areIfsSo_390 rfl rfl rfl ?_
                          refine x_catRV (st := [.int (f_X6_unlike M N_306 a2 a3)]) (st2 := [.int (f_X6_unlike M N_306 a3 a2), .int (f_X6_unlike M N_306 a2 a3)]) (pc' := 394) (wcs := [wMa h ad M, wSt (kg k) (ad 0) adN N_306]) C (c_X6_unlike (kl k) (kg k) h ad M adN N_306 a3 a2) rfl cw_L_52 ok_X6_unlike rfl (by decide) rfl rfl [0, 1] rfl rfl rfl (Nat.le_of_ble_eq_true rfl) (Nat.zero_le _) (Nat.zero_le _) rfl dL_areIfsSo_391 rfl rfl ?_
                          refine x_icmp_ne (tgt := 411) (pc' := 397) C dL_areIfsSo_394 (by decide) rfl (fun c11 => ?_) (fun c11 => ?_)
                          · rw [if_neg c11] at hRES
                            replace hok := hok.2 c11
                            refine x_iconst (v := 0) (pc' := 412) C dL_areIfsSo_411 rfl (by decide) ?_
                            exact x_zret (b := false) C (Nat.zero_le _) (Nat.zero_le _) dL_areIfsSo_412 ⟨by rw [hRES], by rw [hRES]⟩
                          · rw [if_pos c11] at hRES
                            replace hok := hok.1 c11
                            refine x_aload_n (pc' := 398) C dL_areIfsSo_397 rfl rfl rfl ?_
                            refine x_iload_n (pc' := 399) C dL_areIfsSo_398 rfl rfl rfl ?_
                            obtain ⟨z12, ez12⟩ : ∃ z, z = (f_X6_ifRoot M N_306 E_354 a2) := ⟨_, rfl⟩
                            replace hRES := bd hRES z12 ez12
                            replace hok := bdP hok z12 ez12
                            have hc := c_X6_ifRoot (kl k) (kg k) h ad M adN N_306 adE E_354 a2
                            rw [← ez12] at hc
                            refine x_catWV (st := []) (st2 := [.int z12.1]) (pc' := 402) (wcs := [wMa h ad M, wSt (kg k) (ad 0) adN N_306, wRe (kg k) (ad 5) adE E_354]) (wrs := [wSt (kg k) (ad 1) adF F_281, wHi (kg k) (ad 4) adQ Q_306, wOr (kg k) (ad 6) adO O]) (wcs' := [wMa h ad M, wSt (kg k) (ad 0) adN N_306, wRe (kg k) (ad 5) adE z12.2]) C B [wMa h ad M, wSt (kg k) (ad 0) adN N_306, wSt (kg k) (ad 1) adF F_281, wHi (kg k) (ad 4) adQ Q_306, wRe (kg k) (ad 5) adE z12.2, wOr (kg k) (ad 6) adO O] hc rfl rfl cw_L_65 ok_X6_ifRoot rfl (by decide) rfl rfl [2, 3, 5, 0, 1, 4] [3, 4, 0, 1, 5, 2] rfl rfl rfl rfl rfl (Nat.le_of_ble_eq_true rfl) (Nat.zero_le _) (Nat.zero_le _) rfl dL_areIfsSo_399 rfl rfl ?_
                            refine x_iload (pc' := 404) C dL_areIfsSo_402 rfl rfl ?_
                            refine x_icmp_ne (tgt := 411) (pc' := 407) C dL_areIfsSo_404 (by decide) rfl (fun c13 => ?_) (fun c13 => ?_)
                            · rw [if_neg c13] at hRES
                              replace hok := hok.2 c13
                              refine x_iconst (v := 0) (pc' := 412) C dL_areIfsSo_411 rfl (by decide) ?_
                              exact x_zret (b := false) C (Nat.zero_le _) (Nat.zero_le _) dL_areIfsSo_412 ⟨by rw [hRES], by rw [hRES]⟩
                            · rw [if_pos c13] at hRES
                              replace hok := hok.1 c13
                              refine x_iconst (v := 1) (pc' := 408) C dL_areIfsSo_407 rfl (by decide) ?_
                              refine x_goto (tgt := 412) C dL_areIfsSo_408 (by decide) ?_
                              exact x_zret (b := true) C (Nat.zero_le _) (Nat.zero_le _) dL_areIfsSo_412 ⟨by rw [hRES], by rw [hRES]⟩
                have loop320 : ∀ (n320 : Nat) (E_320 : CS) (x12_320 : Int32) (i13_320 : Nat), i13_320 ≤ 24 → 24 < i13_320 + n320 → RES = l_L_areIfsSo_320 M a2 a3 z3 F_281 x6_281 N_306 Q_306 x10_306 n320 E_320 x12_320 i13_320 → ol_L_areIfsSo_320 M a2 a3 z3 x6_281 N_306 x10_306 n320 E_320 x12_320 i13_320 → X k 0 0 (cat [wMa h ad M, wSt (kg k) (ad 0) adN N_306, wSt (kg k) (ad 1) adF F_281, wHi (kg k) (ad 4) adQ Q_306, wRe (kg k) (ad 5) adE E_320, wOr (kg k) (ad 6) adO O]) 320 [some (.ref h), some (.int a2), some (.int a3), none, none, some (.int z3.1), some (.int x6_281), none, none, none, some (.int x10_306), some (.int (f_X6_common M N_306 a2 a3)), some (.int x12_320), some (.int (nI i13_320))] [] := by
                  intro n320
                  induction n320 with
                  | zero =>
                    intro E_320 x12_320 i13_320 hb320 hf320 hRES hok
                    omega
                  | succ n320 ih320 =>
                    intro E_320 x12_320 i13_320 hb320 hf320 hRES hok
                    rw [l_L_areIfsSo_320] at hRES
                    rw [ol_L_areIfsSo_320] at hok
                    refine x_iload (pc' := 322) C dL_areIfsSo_320 rfl rfl ?_
                    refine x_bipush (v := 24) (pc' := 324) C dL_areIfsSo_322 rfl (by decide) ?_
                    refine x_icmpN_ge (tgt := 354) (pc' := 327) C i13_320 24 dL_areIfsSo_324 (by decide) rfl (by omega) (by omega) (fun c14 => ?_) (fun c14 => ?_)
                    · rw [if_neg c14] at hRES
                      replace hok := hok.2 c14
                      refine x_forget (L' := [some (.ref h), some (.int a2), some (.int a3), none, none, some (.int z3.1), some (.int x6_281), none, none, none, some (.int x10_306), some (.int (f_X6_common M N_306 a2 a3)), some (.int x12_320), none]) [0, 1, 2, 3, 4, 5, 6, 7] rfl rfl ?_
                      exact cont354 E_320 x12_320 hRES hok
                    · rw [if_pos c14] at hRES
                      replace hok := hok.1 c14
                      refine x_iload (pc' := 329) C dL_areIfsSo_327 rfl rfl ?_
                      refine x_iload (pc' := 331) C dL_areIfsSo_329 rfl rfl ?_
                      refine x_icmp_eq (tgt := 354) (pc' := 334) C dL_areIfsSo_331 (by decide) rfl (fun c15 => ?_) (fun c15 => ?_)
                      · rw [if_pos c15] at hRES
                        replace hok := hok.1 c15
                        refine x_forget (L' := [some (.ref h), some (.int a2), some (.int a3), none, none, some (.int z3.1), some (.int x6_281), none, none, none, some (.int x10_306), some (.int (f_X6_common M N_306 a2 a3)), some (.int x12_320), none]) [0, 1, 2, 3, 4, 5, 6, 7] rfl rfl ?_
                        exact cont354 E_320 x12_320 hRES hok
                      · rw [if_neg c15] at hRES
                        replace hok := hok.2 c15
                        refine x_iload (pc' := 336) C dL_areIfsSo_334 rfl rfl ?_
                        refine x_if_le (tgt := 354) (pc' := 339) C dL_areIfsSo_336 (by decide) rfl (fun c16 => ?_) (fun c16 => ?_)
                        · rw [if_neg c16] at hRES
                          replace hok := hok.2 c16
                          refine x_forget (L' := [some (.ref h), some (.int a2), some (.int a3), none, none, some (.int z3.1), some (.int x6_281), none, none, none, some (.int x10_306), some (.int (f_X6_common M N_306 a2 a3)), some (.int x12_320), none]) [0, 1, 2, 3, 4, 5, 6, 7] rfl rfl ?_
                          exact cont354 E_320 x12_320 hRES hok
                        · rw [if_pos c16] at hRES
                          replace hok := hok.1 c16
                          refine x_aload_n (pc' := 340) C dL_areIfsSo_339 rfl rfl rfl ?_
                          refine x_iload (pc' := 342) C dL_areIfsSo_340 rfl rfl ?_
                          refine x_iconst (v := 0) (pc' := 343) C dL_areIfsSo_342 rfl (by decide) ?_
                          obtain ⟨z17, ez17⟩ : ∃ z, z = (f_X6_version M N_306 E_320 x12_320 0) := ⟨_, rfl⟩
                          replace hRES := bd hRES z17 ez17
                          replace hok := bdP hok z17 ez17
                          have hc := c_X6_version (kl k) (kg k) h ad M adN N_306 adE E_320 x12_320 0
                          rw [← ez17] at hc
                          refine x_catWV (st := []) (st2 := [.int z17.1]) (pc' := 346) (wcs := [wMa h ad M, wSt (kg k) (ad 0) adN N_306, wRe (kg k) (ad 5) adE E_320]) (wrs := [wSt (kg k) (ad 1) adF F_281, wHi (kg k) (ad 4) adQ Q_306, wOr (kg k) (ad 6) adO O]) (wcs' := [wMa h ad M, wSt (kg k) (ad 0) adN N_306, wRe (kg k) (ad 5) adE z17.2]) C B [wMa h ad M, wSt (kg k) (ad 0) adN N_306, wSt (kg k) (ad 1) adF F_281, wHi (kg k) (ad 4) adQ Q_306, wRe (kg k) (ad 5) adE z17.2, wOr (kg k) (ad 6) adO O] hc rfl rfl cw_L_14 ok_X6_version rfl (by decide) rfl rfl [2, 3, 5, 0, 1, 4] [3, 4, 0, 1, 5, 2] rfl rfl rfl rfl rfl (Nat.le_of_ble_eq_true rfl) (Nat.zero_le _) (Nat.zero_le _) rfl dL_areIfsSo_343 rfl rfl ?_
                          refine x_istore (pc' := 348) (L' := [some (.ref h), some (.int a2), some (.int a3), none, none, some (.int z3.1), some (.int x6_281), none, none, none, some (.int x10_306), some (.int (f_X6_common M N_306 a2 a3)), some (.int z17.1), some (.int (nI i13_320))]) C dL_areIfsSo_346 rfl (Nat.le_of_ble_eq_true rfl) rfl ?_
                          refine x_iinc (pc' := 351) (v := (nI (i13_320 + 1))) (L' := [some (.ref h), some (.int a2), some (.int a3), none, none, some (.int z3.1), some (.int x6_281), none, none, none, some (.int x10_306), some (.int (f_X6_common M N_306 a2 a3)), some (.int z17.1), some (.int (nI (i13_320 + 1)))]) C dL_areIfsSo_348 rfl rfl (nI_add i13_320 1) (Nat.le_of_ble_eq_true rfl) rfl ?_
                          refine x_goto (tgt := 320) C dL_areIfsSo_351 (by decide) ?_
                          exact ih320 z17.2 z17.1 (i13_320 + 1) (by omega) (by omega) hRES hok
                exact loop320 25 E_281 a3 0 (by omega) (by omega) hRES hok
              have loop287 : ∀ (n287 : Nat) (N_287 : CS) (Q_287 : HS) (x10_287 : Int32) (i11_287 : Nat), RES = l_L_areIfsSo_287 M a2 a3 z3 E_281 F_281 x6_281 x7_281 n287 N_287 Q_287 x10_287 i11_287 → ol_L_areIfsSo_287 M a2 a3 z3 E_281 x6_281 x7_281 n287 N_287 Q_287 x10_287 i11_287 → X k 0 0 (cat [wMa h ad M, wSt (kg k) (ad 0) adN N_287, wSt (kg k) (ad 1) adF F_281, wHi (kg k) (ad 4) adQ Q_287, wRe (kg k) (ad 5) adE E_281, wOr (kg k) (ad 6) adO O]) 287 [some (.ref h), some (.int a2), some (.int a3), none, none, some (.int z3.1), some (.int x6_281), some (.int x7_281), none, none, some (.int x10_287), some (.int (nI i11_287)), none, none] [] := by
                intro n287
                induction n287 with
                | zero =>
                  intro N_287 Q_287 x10_287 i11_287 hRES hok
                  exact (show False from hok).elim
                | succ n287 ih287 =>
                  intro N_287 Q_287 x10_287 i11_287 hRES hok
                  rw [l_L_areIfsSo_287] at hRES
                  rw [ol_L_areIfsSo_287] at hok
                  refine x_iload (pc' := 289) C dL_areIfsSo_287 rfl rfl ?_
                  refine x_iload (pc' := 291) C dL_areIfsSo_289 rfl rfl ?_
                  refine x_icmp_ge (tgt := 306) (pc' := 294) C dL_areIfsSo_291 (by decide) rfl (fun c18 => ?_) (fun c18 => ?_)
                  · rw [if_neg c18] at hRES
                    replace hok := hok.2 c18
                    refine x_forget (L' := [some (.ref h), some (.int a2), some (.int a3), none, none, some (.int z3.1), some (.int x6_281), none, none, none, some (.int x10_287), none, none, none]) [0, 1, 2, 3, 4, 6] rfl rfl ?_
                    exact cont306 N_287 Q_287 x10_287 hRES hok
                  · rw [if_pos c18] at hRES
                    replace hok := hok.1 c18
                    refine x_aload_n (pc' := 295) C dL_areIfsSo_294 rfl rfl rfl ?_
                    obtain ⟨hn19, hok⟩ := hok
                    obtain ⟨z20, ez20⟩ : ∃ z, z = (f_X6_undo M N_287 Q_287) := ⟨_, rfl⟩
                    replace hRES := bd hRES z20 ez20
                    replace hok := bdP hok z20 ez20
                    have hc := c_X6_undo (kl k) (kg k) h ad M adN N_287 adQ Q_287 hn19
                    rw [← ez20] at hc
                    refine x_catWV (st := []) (st2 := [.int z20.1]) (pc' := 298) (wcs := [wMa h ad M, wSt (kg k) (ad 0) adN N_287, wHi (kg k) (ad 4) adQ Q_287]) (wrs := [wSt (kg k) (ad 1) adF F_281, wRe (kg k) (ad 5) adE E_281, wOr (kg k) (ad 6) adO O]) (wcs' := [wMa h ad M, wSt (kg k) (ad 0) adN z20.2.1, wHi (kg k) (ad 4) adQ z20.2.2]) C B [wMa h ad M, wSt (kg k) (ad 0) adN z20.2.1, wSt (kg k) (ad 1) adF F_281, wHi (kg k) (ad 4) adQ z20.2.2, wRe (kg k) (ad 5) adE E_281, wOr (kg k) (ad 6) adO O] hc rfl rfl cw_L_58 ok_X6_undo rfl (by decide) rfl rfl [2, 4, 5, 0, 1, 3] [3, 4, 0, 5, 1, 2] rfl rfl rfl rfl rfl (Nat.le_of_ble_eq_true rfl) (Nat.zero_le _) (Nat.zero_le _) rfl dL_areIfsSo_295 rfl rfl ?_
                    refine x_istore (pc' := 300) (L' := [some (.ref h), some (.int a2), some (.int a3), none, none, some (.int z3.1), some (.int x6_281), some (.int x7_281), none, none, some (.int z20.1), some (.int (nI i11_287)), none, none]) C dL_areIfsSo_298 rfl (Nat.le_of_ble_eq_true rfl) rfl ?_
                    refine x_iinc (pc' := 303) (v := (nI (i11_287 + 1))) (L' := [some (.ref h), some (.int a2), some (.int a3), none, none, some (.int z3.1), some (.int x6_281), some (.int x7_281), none, none, some (.int z20.1), some (.int (nI (i11_287 + 1))), none, none]) C dL_areIfsSo_300 rfl rfl (nI_add i11_287 1) (Nat.le_of_ble_eq_true rfl) rfl ?_
                    refine x_goto (tgt := 287) C dL_areIfsSo_303 (by decide) ?_
                    exact ih287 z20.2.1 z20.2.2 z20.1 (i11_287 + 1) hRES hok
              exact loop287 4 N_281 Q_281 0 0 hRES hok
            refine x_if_le (tgt := 281) (pc' := 202) C dL_areIfsSo_199 (by decide) rfl (fun c21 => ?_) (fun c21 => ?_)
            · rw [if_neg c21] at hRES
              replace hok := hok.2 c21
              exact join281 E_174 F_80 N_80 Q_80 y0_196 y0_64 hRES hok
            · rw [if_pos c21] at hRES
              replace hok := hok.1 c21
              refine x_aload_n (pc' := 203) C dL_areIfsSo_202 rfl rfl rfl ?_
              refine x_iload_n (pc' := 204) C dL_areIfsSo_203 rfl rfl rfl ?_
              refine x_catRV (st := []) (st2 := [.int (f_X6_ifCut M N_80 a2)]) (pc' := 207) (wcs := [wMa h ad M, wSt (kg k) (ad 0) adN N_80]) C (c_X6_ifCut (kl k) (kg k) h ad M adN N_80 a2) rfl cw_L_68 ok_X6_ifCut rfl (by decide) rfl rfl [0, 1] rfl rfl rfl (Nat.le_of_ble_eq_true rfl) (Nat.zero_le _) (Nat.zero_le _) rfl dL_areIfsSo_204 rfl rfl ?_
              refine x_istore (pc' := 209) (L' := [some (.ref h), some (.int a2), some (.int a3), none, none, some (.int z3.1), some (.int y0_196), some (.int y0_64), none, none, some (.int (f_X6_ifCut M N_80 a2)), none, none, none]) C dL_areIfsSo_207 rfl (Nat.le_of_ble_eq_true rfl) rfl ?_
              refine x_aload_n (pc' := 210) C dL_areIfsSo_209 rfl rfl rfl ?_
              refine x_iload_n (pc' := 211) C dL_areIfsSo_210 rfl rfl rfl ?_
              refine x_iconst (v := 1) (pc' := 212) C dL_areIfsSo_211 rfl (by decide) ?_
              obtain ⟨z22, ez22⟩ : ∃ z, z = (f_X6_version M N_80 E_174 a2 1) := ⟨_, rfl⟩
              replace hRES := bd hRES z22 ez22
              replace hok := bdP hok z22 ez22
              have hc := c_X6_version (kl k) (kg k) h ad M adN N_80 adE E_174 a2 1
              rw [← ez22] at hc
              refine x_catWV (st := []) (st2 := [.int z22.1]) (pc' := 215) (wcs := [wMa h ad M, wSt (kg k) (ad 0) adN N_80, wRe (kg k) (ad 5) adE E_174]) (wrs := [wSt (kg k) (ad 1) adF F_80, wHi (kg k) (ad 4) adQ Q_80, wOr (kg k) (ad 6) adO O]) (wcs' := [wMa h ad M, wSt (kg k) (ad 0) adN N_80, wRe (kg k) (ad 5) adE z22.2]) C B [wMa h ad M, wSt (kg k) (ad 0) adN N_80, wSt (kg k) (ad 1) adF F_80, wHi (kg k) (ad 4) adQ Q_80, wRe (kg k) (ad 5) adE z22.2, wOr (kg k) (ad 6) adO O] hc rfl rfl cw_L_14 ok_X6_version rfl (by decide) rfl rfl [2, 3, 5, 0, 1, 4] [3, 4, 0, 1, 5, 2] rfl rfl rfl rfl rfl (Nat.le_of_ble_eq_true rfl) (Nat.zero_le _) (Nat.zero_le _) rfl dL_areIfsSo_212 rfl rfl ?_
              refine x_iconst (v := 1) (pc' := 216) C dL_areIfsSo_215 rfl (by decide) ?_
              have join224 : ∀ (y0_224 : Int32), RES = j_L_areIfsSo_224 M O a2 a3 z3 y0_64 F_80 N_80 Q_80 y0_196 z22 y0_224 → oj_L_areIfsSo_224 M O a2 a3 z3 y0_64 F_80 N_80 Q_80 y0_196 z22 y0_224 → X k 0 0 (cat [wMa h ad M, wSt (kg k) (ad 0) adN N_80, wSt (kg k) (ad 1) adF F_80, wHi (kg k) (ad 4) adQ Q_80, wRe (kg k) (ad 5) adE z22.2, wOr (kg k) (ad 6) adO O]) 224 [some (.ref h), some (.int a2), some (.int a3), none, none, some (.int z3.1), some (.int y0_196), some (.int y0_64), none, none, some (.int (f_X6_ifCut M N_80 a2)), none, none, none] [.int y0_224] := by
                intro y0_224 hRES hok
                unfold j_L_areIfsSo_224 at hRES
                unfold oj_L_areIfsSo_224 at hok
                refine x_istore (pc' := 226) (L' := [some (.ref h), some (.int a2), some (.int a3), none, none, some (.int z3.1), some (.int y0_196), some (.int y0_64), none, none, some (.int (f_X6_ifCut M N_80 a2)), some (.int y0_224), none, none]) C dL_areIfsSo_224 rfl (Nat.le_of_ble_eq_true rfl) rfl ?_
                refine x_iload (pc' := 228) C dL_areIfsSo_226 rfl rfl ?_
                have join244 : ∀ (E_244 : CS) (F_244 : CS) (N_244 : CS) (Q_244 : HS) (y0_244 : Int32), RES = j_L_areIfsSo_244 M O a2 a3 z3 y0_64 N_80 y0_196 E_244 F_244 N_244 Q_244 y0_244 → oj_L_areIfsSo_244 M O a2 a3 z3 y0_64 N_80 y0_196 E_244 F_244 N_244 Q_244 y0_244 → X k 0 0 (cat [wMa h ad M, wSt (kg k) (ad 0) adN N_244, wSt (kg k) (ad 1) adF F_244, wHi (kg k) (ad 4) adQ Q_244, wRe (kg k) (ad 5) adE E_244, wOr (kg k) (ad 6) adO O]) 244 [some (.ref h), some (.int a2), some (.int a3), none, none, some (.int z3.1), some (.int y0_196), some (.int y0_64), none, none, some (.int (f_X6_ifCut M N_80 a2)), none, none, none] [.int y0_244] := by
                  intro E_244 F_244 N_244 Q_244 y0_244 hRES hok
                  unfold j_L_areIfsSo_244 at hRES
                  unfold oj_L_areIfsSo_244 at hok
                  refine x_istore (pc' := 246) (L' := [some (.ref h), some (.int a2), some (.int a3), none, none, some (.int z3.1), some (.int y0_196), some (.int y0_64), none, none, some (.int (f_X6_ifCut M N_80 a2)), none, some (.int y0_244), none]) C dL_areIfsSo_244 rfl (Nat.le_of_ble_eq_true rfl) rfl ?_
                  refine x_iload (pc' := 248) C dL_areIfsSo_246 rfl rfl ?_
                  have join276 : ∀ (E_276 : CS) (y0_276 : Int32), RES = j_L_areIfsSo_276 M a2 a3 z3 y0_64 F_244 N_244 Q_244 E_276 y0_276 → oj_L_areIfsSo_276 M a2 a3 z3 y0_64 F_244 N_244 Q_244 E_276 y0_276 → X k 0 0 (cat [wMa h ad M, wSt (kg k) (ad 0) adN N_244, wSt (kg k) (ad 1) adF F_244, wHi (kg k) (ad 4) adQ Q_244, wRe (kg k) (ad 5) adE E_276, wOr (kg k) (ad 6) adO O]) 276 [some (.ref h), some (.int a2), some (.int a3), none, none, some (.int z3.1), none, some (.int y0_64), none, none, none, none, none, none] [.int y0_276] := by
                    intro E_276 y0_276 hRES hok
                    unfold j_L_areIfsSo_276 at hRES
                    unfold oj_L_areIfsSo_276 at hok
                    refine x_istore (pc' := 278) (L' := [some (.ref h), some (.int a2), some (.int a3), none, none, some (.int z3.1), some (.int y0_276), some (.int y0_64), none, none, none, none, none, none]) C dL_areIfsSo_276 rfl (Nat.le_of_ble_eq_true rfl) rfl ?_
                    refine x_iinc (pc' := 281) (v := (y0_64 + 1)) (L' := [some (.ref h), some (.int a2), some (.int a3), none, none, some (.int z3.1), some (.int y0_276), some (.int (y0_64 + 1)), none, none, none, none, none, none]) C dL_areIfsSo_278 rfl rfl rfl (Nat.le_of_ble_eq_true rfl) rfl ?_
                    exact join281 E_276 F_244 N_244 Q_244 y0_276 (y0_64 + 1) hRES hok
                  refine x_if_eq (tgt := 275) (pc' := 251) C dL_areIfsSo_248 (by decide) rfl (fun c23 => ?_) (fun c23 => ?_)
                  · rw [if_pos c23] at hRES
                    replace hok := hok.1 c23
                    refine x_iconst (v := 0) (pc' := 276) C dL_areIfsSo_275 rfl (by decide) ?_
                    refine x_forget (L' := [some (.ref h), some (.int a2), some (.int a3), none, none, some (.int z3.1), none, some (.int y0_64), none, none, none, none, none, none]) [0, 1, 2, 3, 5] rfl rfl ?_
                    exact join276 E_244 0 hRES hok
                  · rw [if_neg c23] at hRES
                    replace hok := hok.2 c23
                    refine x_aload_n (pc' := 252) C dL_areIfsSo_251 rfl rfl rfl ?_
                    refine x_iconst (v := 2) (pc' := 253) C dL_areIfsSo_252 rfl (by decide) ?_
                    obtain ⟨z24, ez24⟩ : ∃ z, z = (f_X6_count M N_244 Q_244 E_244 O 2) := ⟨_, rfl⟩
                    replace hRES := bd hRES z24 ez24
                    replace hok := bdP hok z24 ez24
                    have hc := c_X6_count (kl k) (kg k) h ad M adN N_244 adQ Q_244 adE E_244 adO O 2
                    rw [← ez24] at hc
                    refine x_catWV (st := []) (st2 := [.int z24.1]) (pc' := 256) (wcs := [wMa h ad M, wSt (kg k) (ad 0) adN N_244, wHi (kg k) (ad 4) adQ Q_244, wRe (kg k) (ad 5) adE E_244, wOr (kg k) (ad 6) adO O]) (wrs := [wSt (kg k) (ad 1) adF F_244]) (wcs' := [wMa h ad M, wSt (kg k) (ad 0) adN N_244, wHi (kg k) (ad 4) adQ Q_244, wRe (kg k) (ad 5) adE z24.2, wOr (kg k) (ad 6) adO O]) C B [wMa h ad M, wSt (kg k) (ad 0) adN N_244, wSt (kg k) (ad 1) adF F_244, wHi (kg k) (ad 4) adQ Q_244, wRe (kg k) (ad 5) adE z24.2, wOr (kg k) (ad 6) adO O] hc rfl rfl cw_L_23 ok_X6_count rfl (by decide) rfl rfl [2, 0, 1, 3, 4, 5] [1, 2, 0, 3, 4, 5] rfl rfl rfl rfl rfl (Nat.le_of_ble_eq_true rfl) (Nat.zero_le _) (Nat.zero_le _) rfl dL_areIfsSo_253 rfl rfl ?_
                    refine x_iload (pc' := 258) C dL_areIfsSo_256 rfl rfl ?_
                    refine x_icmp_ne (tgt := 275) (pc' := 261) C dL_areIfsSo_258 (by decide) rfl (fun c25 => ?_) (fun c25 => ?_)
                    · rw [if_neg c25] at hRES
                      replace hok := hok.2 c25
                      refine x_iconst (v := 0) (pc' := 276) C dL_areIfsSo_275 rfl (by decide) ?_
                      refine x_forget (L' := [some (.ref h), some (.int a2), some (.int a3), none, none, some (.int z3.1), none, some (.int y0_64), none, none, none, none, none, none]) [0, 1, 2, 3, 5] rfl rfl ?_
                      exact join276 z24.2 0 hRES hok
                    · rw [if_pos c25] at hRES
                      replace hok := hok.1 c25
                      refine x_iload (pc' := 263) C dL_areIfsSo_261 rfl rfl ?_
                      refine x_aload_n (pc' := 264) C dL_areIfsSo_263 rfl rfl rfl ?_
                      refine x_iconst (v := 1) (pc' := 265) C dL_areIfsSo_264 rfl (by decide) ?_
                      obtain ⟨z26, ez26⟩ : ∃ z, z = (f_X6_count M N_244 Q_244 z24.2 O 1) := ⟨_, rfl⟩
                      replace hRES := bd hRES z26 ez26
                      replace hok := bdP hok z26 ez26
                      have hc := c_X6_count (kl k) (kg k) h ad M adN N_244 adQ Q_244 adE z24.2 adO O 1
                      rw [← ez26] at hc
                      refine x_catWV (st := [.int y0_244]) (st2 := [.int z26.1, .int y0_244]) (pc' := 268) (wcs := [wMa h ad M, wSt (kg k) (ad 0) adN N_244, wHi (kg k) (ad 4) adQ Q_244, wRe (kg k) (ad 5) adE z24.2, wOr (kg k) (ad 6) adO O]) (wrs := [wSt (kg k) (ad 1) adF F_244]) (wcs' := [wMa h ad M, wSt (kg k) (ad 0) adN N_244, wHi (kg k) (ad 4) adQ Q_244, wRe (kg k) (ad 5) adE z26.2, wOr (kg k) (ad 6) adO O]) C B [wMa h ad M, wSt (kg k) (ad 0) adN N_244, wSt (kg k) (ad 1) adF F_244, wHi (kg k) (ad 4) adQ Q_244, wRe (kg k) (ad 5) adE z26.2, wOr (kg k) (ad 6) adO O] hc rfl rfl cw_L_23 ok_X6_count rfl (by decide) rfl rfl [2, 0, 1, 3, 4, 5] [1, 2, 0, 3, 4, 5] rfl rfl rfl rfl rfl (Nat.le_of_ble_eq_true rfl) (Nat.zero_le _) (Nat.zero_le _) rfl dL_areIfsSo_265 rfl rfl ?_
                      refine x_icmp_ne (tgt := 275) (pc' := 271) C dL_areIfsSo_268 (by decide) rfl (fun c27 => ?_) (fun c27 => ?_)
                      · rw [if_neg c27] at hRES
                        replace hok := hok.2 c27
                        refine x_iconst (v := 0) (pc' := 276) C dL_areIfsSo_275 rfl (by decide) ?_
                        refine x_forget (L' := [some (.ref h), some (.int a2), some (.int a3), none, none, some (.int z3.1), none, some (.int y0_64), none, none, none, none, none, none]) [0, 1, 2, 3, 5] rfl rfl ?_
                        exact join276 z26.2 0 hRES hok
                      · rw [if_pos c27] at hRES
                        replace hok := hok.1 c27
                        refine x_iconst (v := 1) (pc' := 272) C dL_areIfsSo_271 rfl (by decide) ?_
                        refine x_goto (tgt := 276) C dL_areIfsSo_272 (by decide) ?_
                        refine x_forget (L' := [some (.ref h), some (.int a2), some (.int a3), none, none, some (.int z3.1), none, some (.int y0_64), none, none, none, none, none, none]) [0, 1, 2, 3, 5] rfl rfl ?_
                        exact join276 z26.2 1 hRES hok
                refine x_if_eq (tgt := 239) (pc' := 231) C dL_areIfsSo_228 (by decide) rfl (fun c28 => ?_) (fun c28 => ?_)
                · rw [if_pos c28] at hRES
                  replace hok := hok.1 c28
                  refine x_aload_n (pc' := 240) C dL_areIfsSo_239 rfl rfl rfl ?_
                  refine x_iload_n (pc' := 241) C dL_areIfsSo_240 rfl rfl rfl ?_
                  obtain ⟨hn29, hok⟩ := hok
                  obtain ⟨z30, ez30⟩ : ∃ z, z = (f_X6_join M N_80 F_80 Q_80 z22.2 a2) := ⟨_, rfl⟩
                  replace hRES := bd hRES z30 ez30
                  replace hok := bdP hok z30 ez30
                  have hc := c_X6_join (kl k) (kg k) h ad M adN N_80 adF F_80 adQ Q_80 adE z22.2 a2 hn29
                  rw [← ez30] at hc
                  refine x_catWV (st := []) (st2 := [.int z30.1]) (pc' := 244) (wcs := [wMa h ad M, wSt (kg k) (ad 0) adN N_80, wSt (kg k) (ad 1) adF F_80, wHi (kg k) (ad 4) adQ Q_80, wRe (kg k) (ad 5) adE z22.2]) (wrs := [wOr (kg k) (ad 6) adO O]) (wcs' := [wMa h ad M, wSt (kg k) (ad 0) adN z30.2.1, wSt (kg k) (ad 1) adF z30.2.2.1, wHi (kg k) (ad 4) adQ z30.2.2.2.1, wRe (kg k) (ad 5) adE z30.2.2.2.2]) C B [wMa h ad M, wSt (kg k) (ad 0) adN z30.2.1, wSt (kg k) (ad 1) adF z30.2.2.1, wHi (kg k) (ad 4) adQ z30.2.2.2.1, wRe (kg k) (ad 5) adE z30.2.2.2.2, wOr (kg k) (ad 6) adO O] hc rfl rfl cw_L_43 ok_X6_join rfl (by decide) rfl rfl [5, 0, 1, 2, 3, 4] [1, 2, 3, 4, 5, 0] rfl rfl rfl rfl rfl (Nat.le_of_ble_eq_true rfl) (Nat.zero_le _) (Nat.zero_le _) rfl dL_areIfsSo_241 rfl rfl ?_
                  refine x_forget (L' := [some (.ref h), some (.int a2), some (.int a3), none, none, some (.int z3.1), some (.int y0_196), some (.int y0_64), none, none, some (.int (f_X6_ifCut M N_80 a2)), none, none, none]) [0, 1, 2, 3, 4, 5, 6] rfl rfl ?_
                  exact join244 z30.2.2.2.2 z30.2.2.1 z30.2.1 z30.2.2.2.1 z30.1 hRES hok
                · rw [if_neg c28] at hRES
                  replace hok := hok.2 c28
                  refine x_aload_n (pc' := 232) C dL_areIfsSo_231 rfl rfl rfl ?_
                  refine x_iload_n (pc' := 233) C dL_areIfsSo_232 rfl rfl rfl ?_
                  obtain ⟨hn31, hok⟩ := hok
                  obtain ⟨z32, ez32⟩ : ∃ z, z = (f_X6_cut M N_80 F_80 Q_80 z22.2 a2) := ⟨_, rfl⟩
                  replace hRES := bd hRES z32 ez32
                  replace hok := bdP hok z32 ez32
                  have hc := c_X6_cut (kl k) (kg k) h ad M adN N_80 adF F_80 adQ Q_80 adE z22.2 a2 hn31
                  rw [← ez32] at hc
                  refine x_catWV (st := []) (st2 := [.int z32.1]) (pc' := 236) (wcs := [wMa h ad M, wSt (kg k) (ad 0) adN N_80, wSt (kg k) (ad 1) adF F_80, wHi (kg k) (ad 4) adQ Q_80, wRe (kg k) (ad 5) adE z22.2]) (wrs := [wOr (kg k) (ad 6) adO O]) (wcs' := [wMa h ad M, wSt (kg k) (ad 0) adN z32.2.1, wSt (kg k) (ad 1) adF z32.2.2.1, wHi (kg k) (ad 4) adQ z32.2.2.2.1, wRe (kg k) (ad 5) adE z32.2.2.2.2]) C B [wMa h ad M, wSt (kg k) (ad 0) adN z32.2.1, wSt (kg k) (ad 1) adF z32.2.2.1, wHi (kg k) (ad 4) adQ z32.2.2.2.1, wRe (kg k) (ad 5) adE z32.2.2.2.2, wOr (kg k) (ad 6) adO O] hc rfl rfl cw_L_40 ok_X6_cut rfl (by decide) rfl rfl [5, 0, 1, 2, 3, 4] [1, 2, 3, 4, 5, 0] rfl rfl rfl rfl rfl (Nat.le_of_ble_eq_true rfl) (Nat.zero_le _) (Nat.zero_le _) rfl dL_areIfsSo_233 rfl rfl ?_
                  refine x_goto (tgt := 244) C dL_areIfsSo_236 (by decide) ?_
                  refine x_forget (L' := [some (.ref h), some (.int a2), some (.int a3), none, none, some (.int z3.1), some (.int y0_196), some (.int y0_64), none, none, some (.int (f_X6_ifCut M N_80 a2)), none, none, none]) [0, 1, 2, 3, 4, 5, 6] rfl rfl ?_
                  exact join244 z32.2.2.2.2 z32.2.2.1 z32.2.1 z32.2.2.2.1 z32.1 hRES hok
              refine x_icmp_ne (tgt := 223) (pc' := 219) C dL_areIfsSo_216 (by decide) rfl (fun c33 => ?_) (fun c33 => ?_)
              · rw [if_neg c33] at hRES
                replace hok := hok.2 c33
                refine x_iconst (v := 0) (pc' := 224) C dL_areIfsSo_223 rfl (by decide) ?_
                exact join224 0 hRES hok
              · rw [if_pos c33] at hRES
                replace hok := hok.1 c33
                refine x_iconst (v := 1) (pc' := 220) C dL_areIfsSo_219 rfl (by decide) ?_
                refine x_goto (tgt := 224) C dL_areIfsSo_220 (by decide) ?_
                exact join224 1 hRES hok
          refine x_if_eq (tgt := 195) (pc' := 179) C dL_areIfsSo_176 (by decide) rfl (fun c34 => ?_) (fun c34 => ?_)
          · rw [if_pos c34] at hRES
            replace hok := hok.1 c34
            refine x_iconst (v := 0) (pc' := 196) C dL_areIfsSo_195 rfl (by decide) ?_
            refine x_forget (L' := [some (.ref h), some (.int a2), some (.int a3), none, none, some (.int z3.1), none, some (.int y0_64), none, none, none, none, none, none]) [0, 1, 2, 3, 5] rfl rfl ?_
            exact join196 0 hRES hok
          · rw [if_neg c34] at hRES
            replace hok := hok.2 c34
            refine x_iload (pc' := 181) C dL_areIfsSo_179 rfl rfl ?_
            refine x_iload (pc' := 183) C dL_areIfsSo_181 rfl rfl ?_
            refine x_icmp_ne (tgt := 195) (pc' := 186) C dL_areIfsSo_183 (by decide) rfl (fun c35 => ?_) (fun c35 => ?_)
            · rw [if_neg c35] at hRES
              replace hok := hok.2 c35
              refine x_iconst (v := 0) (pc' := 196) C dL_areIfsSo_195 rfl (by decide) ?_
              refine x_forget (L' := [some (.ref h), some (.int a2), some (.int a3), none, none, some (.int z3.1), none, some (.int y0_64), none, none, none, none, none, none]) [0, 1, 2, 3, 5] rfl rfl ?_
              exact join196 0 hRES hok
            · rw [if_pos c35] at hRES
              replace hok := hok.1 c35
              refine x_iload (pc' := 188) C dL_areIfsSo_186 rfl rfl ?_
              refine x_if_lt (tgt := 195) (pc' := 191) C dL_areIfsSo_188 (by decide) rfl (fun c36 => ?_) (fun c36 => ?_)
              · rw [if_pos c36] at hRES
                replace hok := hok.1 c36
                refine x_iconst (v := 0) (pc' := 196) C dL_areIfsSo_195 rfl (by decide) ?_
                refine x_forget (L' := [some (.ref h), some (.int a2), some (.int a3), none, none, some (.int z3.1), none, some (.int y0_64), none, none, none, none, none, none]) [0, 1, 2, 3, 5] rfl rfl ?_
                exact join196 0 hRES hok
              · rw [if_neg c36] at hRES
                replace hok := hok.2 c36
                refine x_iconst (v := 1) (pc' := 192) C dL_areIfsSo_191 rfl (by decide) ?_
                refine x_goto (tgt := 196) C dL_areIfsSo_192 (by decide) ?_
                refine x_forget (L' := [some (.ref h), some (.int a2), some (.int a3), none, none, some (.int z3.1), none, some (.int y0_64), none, none, none, none, none, none]) [0, 1, 2, 3, 5] rfl rfl ?_
                exact join196 1 hRES hok
        have loop88 : ∀ (n88 : Nat) (E_88 : CS) (i10_88 : Nat) (x6_88 : Int32) (x9_88 : Int32), i10_88 ≤ 24 → 24 < i10_88 + n88 → RES = l_L_areIfsSo_88 M O a2 a3 z1 z2 z3 y0_64 F_80 N_80 Q_80 y0_80 n88 E_88 i10_88 x6_88 x9_88 → ol_L_areIfsSo_88 M O a2 a3 z1 z2 z3 y0_64 F_80 N_80 Q_80 y0_80 n88 E_88 i10_88 x6_88 x9_88 → X k 0 0 (cat [wMa h ad M, wSt (kg k) (ad 0) adN N_80, wSt (kg k) (ad 1) adF F_80, wHi (kg k) (ad 4) adQ Q_80, wRe (kg k) (ad 5) adE E_88, wOr (kg k) (ad 6) adO O]) 88 [some (.ref h), some (.int a2), some (.int a3), some (.int z1.1), some (.int z2.1), some (.int z3.1), some (.int x6_88), some (.int y0_64), some (.int y0_80), some (.int x9_88), some (.int (nI i10_88)), none, none, none] [] := by
          intro n88
          induction n88 with
          | zero =>
            intro E_88 i10_88 x6_88 x9_88 hb88 hf88 hRES hok
            omega
          | succ n88 ih88 =>
            intro E_88 i10_88 x6_88 x9_88 hb88 hf88 hRES hok
            rw [l_L_areIfsSo_88] at hRES
            rw [ol_L_areIfsSo_88] at hok
            refine x_iload (pc' := 90) C dL_areIfsSo_88 rfl rfl ?_
            refine x_bipush (v := 24) (pc' := 92) C dL_areIfsSo_90 rfl (by decide) ?_
            refine x_icmpN_ge (tgt := 174) (pc' := 95) C i10_88 24 dL_areIfsSo_92 (by decide) rfl (by omega) (by omega) (fun c37 => ?_) (fun c37 => ?_)
            · rw [if_neg c37] at hRES
              replace hok := hok.2 c37
              refine x_forget (L' := [some (.ref h), some (.int a2), some (.int a3), none, none, some (.int z3.1), some (.int x6_88), some (.int y0_64), some (.int y0_80), some (.int x9_88), none, none, none, none]) [0, 1, 2, 5, 6, 7, 8, 9] rfl rfl ?_
              exact cont174 E_88 x6_88 x9_88 hRES hok
            · rw [if_pos c37] at hRES
              replace hok := hok.1 c37
              refine x_aload_n (pc' := 96) C dL_areIfsSo_95 rfl rfl rfl ?_
              refine x_iload (pc' := 98) C dL_areIfsSo_96 rfl rfl ?_
              refine x_iconst (v := 3) (pc' := 99) C dL_areIfsSo_98 rfl (by decide) ?_
              obtain ⟨z38, ez38⟩ : ∃ z, z = (f_X6_version M N_80 E_88 (nI i10_88) 3) := ⟨_, rfl⟩
              replace hRES := bd hRES z38 ez38
              replace hok := bdP hok z38 ez38
              have hc := c_X6_version (kl k) (kg k) h ad M adN N_80 adE E_88 (nI i10_88) 3
              rw [← ez38] at hc
              refine x_catWV (st := []) (st2 := [.int z38.1]) (pc' := 102) (wcs := [wMa h ad M, wSt (kg k) (ad 0) adN N_80, wRe (kg k) (ad 5) adE E_88]) (wrs := [wSt (kg k) (ad 1) adF F_80, wHi (kg k) (ad 4) adQ Q_80, wOr (kg k) (ad 6) adO O]) (wcs' := [wMa h ad M, wSt (kg k) (ad 0) adN N_80, wRe (kg k) (ad 5) adE z38.2]) C B [wMa h ad M, wSt (kg k) (ad 0) adN N_80, wSt (kg k) (ad 1) adF F_80, wHi (kg k) (ad 4) adQ Q_80, wRe (kg k) (ad 5) adE z38.2, wOr (kg k) (ad 6) adO O] hc rfl rfl cw_L_14 ok_X6_version rfl (by decide) rfl rfl [2, 3, 5, 0, 1, 4] [3, 4, 0, 1, 5, 2] rfl rfl rfl rfl rfl (Nat.le_of_ble_eq_true rfl) (Nat.zero_le _) (Nat.zero_le _) rfl dL_areIfsSo_99 rfl rfl ?_
              refine x_iload_n (pc' := 103) C dL_areIfsSo_102 rfl rfl rfl ?_
              have join168 : ∀ (E_168 : CS) (x6_168 : Int32) (x9_168 : Int32), RES = j_L_areIfsSo_168 (fun E_88 i10_88 x6_88 x9_88 => l_L_areIfsSo_88 M O a2 a3 z1 z2 z3 y0_64 F_80 N_80 Q_80 y0_80 n88 E_88 i10_88 x6_88 x9_88) i10_88 E_168 x6_168 x9_168 → oj_L_areIfsSo_168 (fun E_88 i10_88 x6_88 x9_88 => ol_L_areIfsSo_88 M O a2 a3 z1 z2 z3 y0_64 F_80 N_80 Q_80 y0_80 n88 E_88 i10_88 x6_88 x9_88) i10_88 E_168 x6_168 x9_168 → X k 0 0 (cat [wMa h ad M, wSt (kg k) (ad 0) adN N_80, wSt (kg k) (ad 1) adF F_80, wHi (kg k) (ad 4) adQ Q_80, wRe (kg k) (ad 5) adE E_168, wOr (kg k) (ad 6) adO O]) 168 [some (.ref h), some (.int a2), some (.int a3), some (.int z1.1), some (.int z2.1), some (.int z3.1), some (.int x6_168), some (.int y0_64), some (.int y0_80), some (.int x9_168), some (.int (nI i10_88)), none, none, none] [] := by
                intro E_168 x6_168 x9_168 hRES hok
                unfold j_L_areIfsSo_168 at hRES
                unfold oj_L_areIfsSo_168 at hok
                refine x_iinc (pc' := 171) (v := (nI (i10_88 + 1))) (L' := [some (.ref h), some (.int a2), some (.int a3), some (.int z1.1), some (.int z2.1), some (.int z3.1), some (.int x6_168), some (.int y0_64), some (.int y0_80), some (.int x9_168), some (.int (nI (i10_88 + 1))), none, none, none]) C dL_areIfsSo_168 rfl rfl (nI_add i10_88 1) (Nat.le_of_ble_eq_true rfl) rfl ?_
                refine x_goto (tgt := 88) C dL_areIfsSo_171 (by decide) ?_
                exact ih88 E_168 (i10_88 + 1) x6_168 x9_168 (by omega) (by omega) hRES hok
              refine x_icmp_ne (tgt := 168) (pc' := 106) C dL_areIfsSo_103 (by decide) rfl (fun c39 => ?_) (fun c39 => ?_)
              · rw [if_neg c39] at hRES
                replace hok := hok.2 c39
                exact join168 z38.2 x6_88 x9_88 hRES hok
              · rw [if_pos c39] at hRES
                replace hok := hok.1 c39
                refine x_iload (pc' := 108) C dL_areIfsSo_106 rfl rfl ?_
                refine x_aload_n (pc' := 109) C dL_areIfsSo_108 rfl rfl rfl ?_
                refine x_iload (pc' := 111) C dL_areIfsSo_109 rfl rfl ?_
                refine x_bipush (v := 6) (pc' := 113) C dL_areIfsSo_111 rfl (by decide) ?_
                obtain ⟨z40, ez40⟩ : ∃ z, z = (f_X6_version M N_80 z38.2 (nI i10_88) 6) := ⟨_, rfl⟩
                replace hRES := bd hRES z40 ez40
                replace hok := bdP hok z40 ez40
                have hc := c_X6_version (kl k) (kg k) h ad M adN N_80 adE z38.2 (nI i10_88) 6
                rw [← ez40] at hc
                refine x_catWV (st := [.int x9_88]) (st2 := [.int z40.1, .int x9_88]) (pc' := 116) (wcs := [wMa h ad M, wSt (kg k) (ad 0) adN N_80, wRe (kg k) (ad 5) adE z38.2]) (wrs := [wSt (kg k) (ad 1) adF F_80, wHi (kg k) (ad 4) adQ Q_80, wOr (kg k) (ad 6) adO O]) (wcs' := [wMa h ad M, wSt (kg k) (ad 0) adN N_80, wRe (kg k) (ad 5) adE z40.2]) C B [wMa h ad M, wSt (kg k) (ad 0) adN N_80, wSt (kg k) (ad 1) adF F_80, wHi (kg k) (ad 4) adQ Q_80, wRe (kg k) (ad 5) adE z40.2, wOr (kg k) (ad 6) adO O] hc rfl rfl cw_L_14 ok_X6_version rfl (by decide) rfl rfl [2, 3, 5, 0, 1, 4] [3, 4, 0, 1, 5, 2] rfl rfl rfl rfl rfl (Nat.le_of_ble_eq_true rfl) (Nat.zero_le _) (Nat.zero_le _) rfl dL_areIfsSo_113 rfl rfl ?_
                refine x_aload_n (pc' := 117) C dL_areIfsSo_116 rfl rfl rfl ?_
                refine x_iload (pc' := 119) C dL_areIfsSo_117 rfl rfl ?_
                refine x_bipush (v := 9) (pc' := 121) C dL_areIfsSo_119 rfl (by decide) ?_
                obtain ⟨z41, ez41⟩ : ∃ z, z = (f_X6_version M N_80 z40.2 (nI i10_88) 9) := ⟨_, rfl⟩
                replace hRES := bd hRES z41 ez41
                replace hok := bdP hok z41 ez41
                have hc := c_X6_version (kl k) (kg k) h ad M adN N_80 adE z40.2 (nI i10_88) 9
                rw [← ez41] at hc
                refine x_catWV (st := [.int z40.1, .int x9_88]) (st2 := [.int z41.1, .int z40.1, .int x9_88]) (pc' := 124) (wcs := [wMa h ad M, wSt (kg k) (ad 0) adN N_80, wRe (kg k) (ad 5) adE z40.2]) (wrs := [wSt (kg k) (ad 1) adF F_80, wHi (kg k) (ad 4) adQ Q_80, wOr (kg k) (ad 6) adO O]) (wcs' := [wMa h ad M, wSt (kg k) (ad 0) adN N_80, wRe (kg k) (ad 5) adE z41.2]) C B [wMa h ad M, wSt (kg k) (ad 0) adN N_80, wSt (kg k) (ad 1) adF F_80, wHi (kg k) (ad 4) adQ Q_80, wRe (kg k) (ad 5) adE z41.2, wOr (kg k) (ad 6) adO O] hc rfl rfl cw_L_14 ok_X6_version rfl (by decide) rfl rfl [2, 3, 5, 0, 1, 4] [3, 4, 0, 1, 5, 2] rfl rfl rfl rfl rfl (Nat.le_of_ble_eq_true rfl) (Nat.zero_le _) (Nat.zero_le _) rfl dL_areIfsSo_121 rfl rfl ?_
                refine x_imul (pc' := 125) (v := (z40.1 * z41.1)) C dL_areIfsSo_124 rfl rfl ?_
                refine x_iadd (pc' := 126) (v := (x9_88 + (z40.1 * z41.1))) C dL_areIfsSo_125 rfl rfl ?_
                refine x_istore (pc' := 128) (L' := [some (.ref h), some (.int a2), some (.int a3), some (.int z1.1), some (.int z2.1), some (.int z3.1), some (.int x6_88), some (.int y0_64), some (.int y0_80), some (.int (x9_88 + (z40.1 * z41.1))), some (.int (nI i10_88)), none, none, none]) C dL_areIfsSo_126 rfl (Nat.le_of_ble_eq_true rfl) rfl ?_
                refine x_iload (pc' := 130) C dL_areIfsSo_128 rfl rfl ?_
                have join166 : ∀ (E_166 : CS) (y0_166 : Int32), RES = j_L_areIfsSo_166 (fun E_88 i10_88 x6_88 x9_88 => l_L_areIfsSo_88 M O a2 a3 z1 z2 z3 y0_64 F_80 N_80 Q_80 y0_80 n88 E_88 i10_88 x6_88 x9_88) i10_88 x9_88 z40 z41 E_166 y0_166 → oj_L_areIfsSo_166 (fun E_88 i10_88 x6_88 x9_88 => ol_L_areIfsSo_88 M O a2 a3 z1 z2 z3 y0_64 F_80 N_80 Q_80 y0_80 n88 E_88 i10_88 x6_88 x9_88) i10_88 x9_88 z40 z41 E_166 y0_166 → X k 0 0 (cat [wMa h ad M, wSt (kg k) (ad 0) adN N_80, wSt (kg k) (ad 1) adF F_80, wHi (kg k) (ad 4) adQ Q_80, wRe (kg k) (ad 5) adE E_166, wOr (kg k) (ad 6) adO O]) 166 [some (.ref h), some (.int a2), some (.int a3), some (.int z1.1), some (.int z2.1), some (.int z3.1), none, some (.int y0_64), some (.int y0_80), some (.int (x9_88 + (z40.1 * z41.1))), some (.int (nI i10_88)), none, none, none] [.int y0_166] := by
                  intro E_166 y0_166 hRES hok
                  unfold j_L_areIfsSo_166 at hRES
                  unfold oj_L_areIfsSo_166 at hok
                  refine x_istore (pc' := 168) (L' := [some (.ref h), some (.int a2), some (.int a3), some (.int z1.1), some (.int z2.1), some (.int z3.1), some (.int y0_166), some (.int y0_64), some (.int y0_80), some (.int (x9_88 + (z40.1 * z41.1))), some (.int (nI i10_88)), none, none, none]) C dL_areIfsSo_166 rfl (Nat.le_of_ble_eq_true rfl) rfl ?_
                  exact join168 E_166 y0_166 (x9_88 + (z40.1 * z41.1)) hRES hok
                refine x_if_eq (tgt := 165) (pc' := 133) C dL_areIfsSo_130 (by decide) rfl (fun c42 => ?_) (fun c42 => ?_)
                · rw [if_pos c42] at hRES
                  replace hok := hok.1 c42
                  refine x_iconst (v := 0) (pc' := 166) C dL_areIfsSo_165 rfl (by decide) ?_
                  refine x_forget (L' := [some (.ref h), some (.int a2), some (.int a3), some (.int z1.1), some (.int z2.1), some (.int z3.1), none, some (.int y0_64), some (.int y0_80), some (.int (x9_88 + (z40.1 * z41.1))), some (.int (nI i10_88)), none, none, none]) [0, 1, 2, 3, 4, 5, 7, 8, 9, 10] rfl rfl ?_
                  exact join166 z41.2 0 hRES hok
                · rw [if_neg c42] at hRES
                  replace hok := hok.2 c42
                  refine x_aload_n (pc' := 134) C dL_areIfsSo_133 rfl rfl rfl ?_
                  refine x_iload (pc' := 136) C dL_areIfsSo_134 rfl rfl ?_
                  obtain ⟨z43, ez43⟩ : ∃ z, z = (f_X6_ifRoot M N_80 z41.2 (nI i10_88)) := ⟨_, rfl⟩
                  replace hRES := bd hRES z43 ez43
                  replace hok := bdP hok z43 ez43
                  have hc := c_X6_ifRoot (kl k) (kg k) h ad M adN N_80 adE z41.2 (nI i10_88)
                  rw [← ez43] at hc
                  refine x_catWV (st := []) (st2 := [.int z43.1]) (pc' := 139) (wcs := [wMa h ad M, wSt (kg k) (ad 0) adN N_80, wRe (kg k) (ad 5) adE z41.2]) (wrs := [wSt (kg k) (ad 1) adF F_80, wHi (kg k) (ad 4) adQ Q_80, wOr (kg k) (ad 6) adO O]) (wcs' := [wMa h ad M, wSt (kg k) (ad 0) adN N_80, wRe (kg k) (ad 5) adE z43.2]) C B [wMa h ad M, wSt (kg k) (ad 0) adN N_80, wSt (kg k) (ad 1) adF F_80, wHi (kg k) (ad 4) adQ Q_80, wRe (kg k) (ad 5) adE z43.2, wOr (kg k) (ad 6) adO O] hc rfl rfl cw_L_65 ok_X6_ifRoot rfl (by decide) rfl rfl [2, 3, 5, 0, 1, 4] [3, 4, 0, 1, 5, 2] rfl rfl rfl rfl rfl (Nat.le_of_ble_eq_true rfl) (Nat.zero_le _) (Nat.zero_le _) rfl dL_areIfsSo_136 rfl rfl ?_
                  refine x_iload (pc' := 141) C dL_areIfsSo_139 rfl rfl ?_
                  refine x_icmp_lt (tgt := 165) (pc' := 144) C dL_areIfsSo_141 (by decide) rfl (fun c44 => ?_) (fun c44 => ?_)
                  · rw [if_pos c44] at hRES
                    replace hok := hok.1 c44
                    refine x_iconst (v := 0) (pc' := 166) C dL_areIfsSo_165 rfl (by decide) ?_
                    refine x_forget (L' := [some (.ref h), some (.int a2), some (.int a3), some (.int z1.1), some (.int z2.1), some (.int z3.1), none, some (.int y0_64), some (.int y0_80), some (.int (x9_88 + (z40.1 * z41.1))), some (.int (nI i10_88)), none, none, none]) [0, 1, 2, 3, 4, 5, 7, 8, 9, 10] rfl rfl ?_
                    exact join166 z43.2 0 hRES hok
                  · rw [if_neg c44] at hRES
                    replace hok := hok.2 c44
                    refine x_aload_n (pc' := 145) C dL_areIfsSo_144 rfl rfl rfl ?_
                    refine x_iload (pc' := 147) C dL_areIfsSo_145 rfl rfl ?_
                    obtain ⟨z45, ez45⟩ : ∃ z, z = (f_X6_ifRoot M N_80 z43.2 (nI i10_88)) := ⟨_, rfl⟩
                    replace hRES := bd hRES z45 ez45
                    replace hok := bdP hok z45 ez45
                    have hc := c_X6_ifRoot (kl k) (kg k) h ad M adN N_80 adE z43.2 (nI i10_88)
                    rw [← ez45] at hc
                    refine x_catWV (st := []) (st2 := [.int z45.1]) (pc' := 150) (wcs := [wMa h ad M, wSt (kg k) (ad 0) adN N_80, wRe (kg k) (ad 5) adE z43.2]) (wrs := [wSt (kg k) (ad 1) adF F_80, wHi (kg k) (ad 4) adQ Q_80, wOr (kg k) (ad 6) adO O]) (wcs' := [wMa h ad M, wSt (kg k) (ad 0) adN N_80, wRe (kg k) (ad 5) adE z45.2]) C B [wMa h ad M, wSt (kg k) (ad 0) adN N_80, wSt (kg k) (ad 1) adF F_80, wHi (kg k) (ad 4) adQ Q_80, wRe (kg k) (ad 5) adE z45.2, wOr (kg k) (ad 6) adO O] hc rfl rfl cw_L_65 ok_X6_ifRoot rfl (by decide) rfl rfl [2, 3, 5, 0, 1, 4] [3, 4, 0, 1, 5, 2] rfl rfl rfl rfl rfl (Nat.le_of_ble_eq_true rfl) (Nat.zero_le _) (Nat.zero_le _) rfl dL_areIfsSo_147 rfl rfl ?_
                    refine x_iload (pc' := 152) C dL_areIfsSo_150 rfl rfl ?_
                    refine x_icmp_gt (tgt := 161) (pc' := 155) C dL_areIfsSo_152 (by decide) rfl (fun c46 => ?_) (fun c46 => ?_)
                    · rw [if_pos c46] at hRES
                      replace hok := hok.1 c46
                      refine x_iconst (v := 1) (pc' := 162) C dL_areIfsSo_161 rfl (by decide) ?_
                      refine x_goto (tgt := 166) C dL_areIfsSo_162 (by decide) ?_
                      refine x_forget (L' := [some (.ref h), some (.int a2), some (.int a3), some (.int z1.1), some (.int z2.1), some (.int z3.1), none, some (.int y0_64), some (.int y0_80), some (.int (x9_88 + (z40.1 * z41.1))), some (.int (nI i10_88)), none, none, none]) [0, 1, 2, 3, 4, 5, 7, 8, 9, 10] rfl rfl ?_
                      exact join166 z45.2 1 hRES hok
                    · rw [if_neg c46] at hRES
                      replace hok := hok.2 c46
                      refine x_iload (pc' := 157) C dL_areIfsSo_155 rfl rfl ?_
                      refine x_iload_n (pc' := 158) C dL_areIfsSo_157 rfl rfl rfl ?_
                      refine x_icmp_lt (tgt := 165) (pc' := 161) C dL_areIfsSo_158 (by decide) rfl (fun c47 => ?_) (fun c47 => ?_)
                      · rw [if_pos c47] at hRES
                        replace hok := hok.1 c47
                        refine x_iconst (v := 0) (pc' := 166) C dL_areIfsSo_165 rfl (by decide) ?_
                        refine x_forget (L' := [some (.ref h), some (.int a2), some (.int a3), some (.int z1.1), some (.int z2.1), some (.int z3.1), none, some (.int y0_64), some (.int y0_80), some (.int (x9_88 + (z40.1 * z41.1))), some (.int (nI i10_88)), none, none, none]) [0, 1, 2, 3, 4, 5, 7, 8, 9, 10] rfl rfl ?_
                        exact join166 z45.2 0 hRES hok
                      · rw [if_neg c47] at hRES
                        replace hok := hok.2 c47
                        refine x_iconst (v := 1) (pc' := 162) C dL_areIfsSo_161 rfl (by decide) ?_
                        refine x_goto (tgt := 166) C dL_areIfsSo_162 (by decide) ?_
                        refine x_forget (L' := [some (.ref h), some (.int a2), some (.int a3), some (.int z1.1), some (.int z2.1), some (.int z3.1), none, some (.int y0_64), some (.int y0_80), some (.int (x9_88 + (z40.1 * z41.1))), some (.int (nI i10_88)), none, none, none]) [0, 1, 2, 3, 4, 5, 7, 8, 9, 10] rfl rfl ?_
                        exact join166 z45.2 1 hRES hok
        exact loop88 25 E_80 0 y0_47 0 (by omega) (by omega) hRES hok
      refine x_if_ne (tgt := 75) (pc' := 71) C dL_areIfsSo_68 (by decide) rfl (fun c48 => ?_) (fun c48 => ?_)
      · rw [if_neg c48] at hRES
        replace hok := hok.2 c48
        refine x_aload_n (pc' := 76) C dL_areIfsSo_75 rfl rfl rfl ?_
        refine x_iload_n (pc' := 77) C dL_areIfsSo_76 rfl rfl rfl ?_
        obtain ⟨hn49, hok⟩ := hok
        obtain ⟨z50, ez50⟩ : ∃ z, z = (f_X6_root M N F Q z6.2 a2) := ⟨_, rfl⟩
        replace hRES := bd hRES z50 ez50
        replace hok := bdP hok z50 ez50
        have hc := c_X6_root (kl k) (kg k) h ad M adN N adF F adQ Q adE z6.2 a2 hn49
        rw [← ez50] at hc
        refine x_catWV (st := []) (st2 := [.int z50.1]) (pc' := 80) (wcs := [wMa h ad M, wSt (kg k) (ad 0) adN N, wSt (kg k) (ad 1) adF F, wHi (kg k) (ad 4) adQ Q, wRe (kg k) (ad 5) adE z6.2]) (wrs := [wOr (kg k) (ad 6) adO O]) (wcs' := [wMa h ad M, wSt (kg k) (ad 0) adN z50.2.1, wSt (kg k) (ad 1) adF z50.2.2.1, wHi (kg k) (ad 4) adQ z50.2.2.2.1, wRe (kg k) (ad 5) adE z50.2.2.2.2]) C B [wMa h ad M, wSt (kg k) (ad 0) adN z50.2.1, wSt (kg k) (ad 1) adF z50.2.2.1, wHi (kg k) (ad 4) adQ z50.2.2.2.1, wRe (kg k) (ad 5) adE z50.2.2.2.2, wOr (kg k) (ad 6) adO O] hc rfl rfl cw_L_37 ok_X6_root rfl (by decide) rfl rfl [5, 0, 1, 2, 3, 4] [1, 2, 3, 4, 5, 0] rfl rfl rfl rfl rfl (Nat.le_of_ble_eq_true rfl) (Nat.zero_le _) (Nat.zero_le _) rfl dL_areIfsSo_77 rfl rfl ?_
        exact join80 z50.2.2.2.2 z50.2.2.1 z50.2.1 z50.2.2.2.1 z50.1 hRES hok
      · rw [if_pos c48] at hRES
        replace hok := hok.1 c48
        refine x_iconst (v := 0) (pc' := 72) C dL_areIfsSo_71 rfl (by decide) ?_
        refine x_goto (tgt := 80) C dL_areIfsSo_72 (by decide) ?_
        exact join80 z6.2 F N Q 0 hRES hok
    refine x_icmp_ne (tgt := 63) (pc' := 59) C dL_areIfsSo_56 (by decide) rfl (fun c51 => ?_) (fun c51 => ?_)
    · rw [if_neg c51] at hRES
      replace hok := hok.2 c51
      refine x_iconst (v := 1) (pc' := 64) C dL_areIfsSo_63 rfl (by decide) ?_
      exact join64 1 hRES hok
    · rw [if_pos c51] at hRES
      replace hok := hok.1 c51
      refine x_iconst (v := 0) (pc' := 60) C dL_areIfsSo_59 rfl (by decide) ?_
      refine x_goto (tgt := 64) C dL_areIfsSo_60 (by decide) ?_
      exact join64 0 hRES hok
  refine x_icmp_ne (tgt := 46) (pc' := 35) C dL_areIfsSo_32 (by decide) rfl (fun c52 => ?_) (fun c52 => ?_)
  · rw [if_neg c52] at hRES
    replace hok := hok.2 c52
    refine x_iconst (v := 0) (pc' := 47) C dL_areIfsSo_46 rfl (by decide) ?_
    exact join47 0 hRES hok
  · rw [if_pos c52] at hRES
    replace hok := hok.1 c52
    refine x_iload (pc' := 37) C dL_areIfsSo_35 rfl rfl ?_
    refine x_iload (pc' := 39) C dL_areIfsSo_37 rfl rfl ?_
    refine x_icmp_gt (tgt := 46) (pc' := 42) C dL_areIfsSo_39 (by decide) rfl (fun c53 => ?_) (fun c53 => ?_)
    · rw [if_pos c53] at hRES
      replace hok := hok.1 c53
      refine x_iconst (v := 0) (pc' := 47) C dL_areIfsSo_46 rfl (by decide) ?_
      exact join47 0 hRES hok
    · rw [if_neg c53] at hRES
      replace hok := hok.2 c53
      refine x_iconst (v := 1) (pc' := 43) C dL_areIfsSo_42 rfl (by decide) ?_
      refine x_goto (tgt := 47) C dL_areIfsSo_43 (by decide) ?_
      exact join47 1 hRES hok
