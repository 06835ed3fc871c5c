def f_X2_stepsTo (E : CS) (a1 : Int32) : Int32 := (f_X3_at 24 (E.2 1) a1)
set_option maxRecDepth 100000 in
set_option maxHeartbeats 8000000 in
theorem c_X2_stepsTo (l : Launch) (g : GT) (h : Nat) (ad : Nat → Nat) (E : CS) (a1 : Int32) : CR l yX2_stepsTo (.code yX2_stepsTo cX2_stepsTo 2 (some .int)) 1 g [.ref h, .int a1] (wRe g h ad E) (some (.int (f_X2_stepsTo E a1))) := by
  obtain ⟨RES, hRES⟩ : ∃ z, z = (f_X2_stepsTo E a1) := ⟨_, rfl⟩
  rw [← hRES]
  unfold f_X2_stepsTo at hRES
  refine CRx.of (nL := 2) (ret := (some .int)) (own := RX2) (cc := cX2_stepsTo) rfl (by decide) rfl (List.forall_mem_cons.mpr ⟨rfl, (List.forall_mem_cons.mpr ⟨rfl, (fun _ h => absurd h List.not_mem_nil)⟩)⟩) (Nat.le_of_ble_eq_true rfl) ?_
  intro k C hkl hkg
  subst hkl; subst hkg
  refine x_loc2 (L' := [some (.ref h), some (.int a1)]) rfl ?_
  refine x_aload_n (pc' := 1) C dX2_stepsTo_0 rfl rfl rfl ?_
  refine x_get (pc' := 4) (v := .ref (ad 1)) C 0 1 inBX2 rfl rfl (by decide) fl_X2_9 rfl rfl dX2_stepsTo_1 rfl ?_
  refine x_iload_n (pc' := 5) C dX2_stepsTo_4 rfl rfl rfl ?_
  refine x_RS (st := []) (st2 := [.int (f_X3_at 24 (E.2 1) a1)]) (pc' := 8) C (c_X3_at (kl k) (kg k) (ad 1) 24 (E.2 1) a1 (by decide)) cw_X2_74 ok_X3_at (by decide) [1] rfl rfl rfl (Nat.le_of_ble_eq_true rfl) (Nat.zero_le _) (Nat.zero_le _) rfl dX2_stepsTo_5 rfl rfl ?_
  exact x_iret C (Nat.zero_le _) (Nat.zero_le _) dX2_stepsTo_8 (by rw [hRES])

def f_X2_cellsTo (E : CS) (a1 : Int32) : Int32 := (f_X3_at 24 (E.2 2) a1)
set_option maxRecDepth 100000 in
set_option maxHeartbeats 8000000 in
theorem c_X2_cellsTo (l : Launch) (g : GT) (h : Nat) (ad : Nat → Nat) (E : CS) (a1 : Int32) : CR l yX2_cellsTo (.code yX2_cellsTo cX2_cellsTo 2 (some .int)) 1 g [.ref h, .int a1] (wRe g h ad E) (some (.int (f_X2_cellsTo E a1))) := by
  obtain ⟨RES, hRES⟩ : ∃ z, z = (f_X2_cellsTo E a1) := ⟨_, rfl⟩
  rw [← hRES]
  unfold f_X2_cellsTo at hRES
  refine CRx.of (nL := 2) (ret := (some .int)) (own := RX2) (cc := cX2_cellsTo) rfl (by decide) rfl (List.forall_mem_cons.mpr ⟨rfl, (List.forall_mem_cons.mpr ⟨rfl, (fun _ h => absurd h List.not_mem_nil)⟩)⟩) (Nat.le_of_ble_eq_true rfl) ?_
  intro k C hkl hkg
  subst hkl; subst hkg
  refine x_loc2 (L' := [some (.ref h), some (.int a1)]) rfl ?_
  refine x_aload_n (pc' := 1) C dX2_cellsTo_0 rfl rfl rfl ?_
  refine x_get (pc' := 4) (v := .ref (ad 2)) C 0 2 inBX2 rfl rfl (by decide) fl_X2_15 rfl rfl dX2_cellsTo_1 rfl ?_
  refine x_iload_n (pc' := 5) C dX2_cellsTo_4 rfl rfl rfl ?_
  refine x_RS (st := []) (st2 := [.int (f_X3_at 24 (E.2 2) a1)]) (pc' := 8) C (c_X3_at (kl k) (kg k) (ad 2) 24 (E.2 2) a1 (by decide)) cw_X2_74 ok_X3_at (by decide) [2] rfl rfl rfl (Nat.le_of_ble_eq_true rfl) (Nat.zero_le _) (Nat.zero_le _) rfl dX2_cellsTo_5 rfl rfl ?_
  exact x_iret C (Nat.zero_le _) (Nat.zero_le _) dX2_cellsTo_8 (by rw [hRES])

def f_X2_spreadAlong (E : CS) (S : CS) (a2 : Int32) : CS := (if (bI (f_X4_isIn (E.1 0) a2)) = (bI (f_X4_isIn (E.1 0) (f_X5_sourceOf S a2))) then E else (if (f_X4_isIn (E.1 0) a2) = true then (bind1 (setI E 0 (E.1 0 ||| (f_X4_of (f_X5_sourceOf S a2)))) (fun z9 => (bind1 (setF z9 1 (f_X3_put 24 (z9.2 1) (f_X5_sourceOf S a2) ((f_X2_stepsTo z9 a2) + 1))) (fun z10 => (bind1 (setF z10 2 (f_X3_put 24 (z10.2 2) (f_X5_sourceOf S a2) ((f_X2_cellsTo z10 a2) + (f_J6_bitCount_0f7a4 (f_X5_differenceOf S a2))))) (fun z11 => (bind1 (setF z11 3 (f_X3_put 24 (z11.2 3) (f_X5_sourceOf S a2) a2)) (fun z12 => z12)))))))) else (bind1 (setI E 0 (E.1 0 ||| (f_X4_of a2))) (fun z4 => (bind1 (setF z4 1 (f_X3_put 24 (z4.2 1) a2 ((f_X2_stepsTo z4 (f_X5_sourceOf S a2)) + 1))) (fun z5 => (bind1 (setF z5 2 (f_X3_put 24 (z5.2 2) a2 ((f_X2_cellsTo z5 (f_X5_sourceOf S a2)) + (f_J6_bitCount_0f7a4 (f_X5_differenceOf S a2))))) (fun z6 => (bind1 (setF z6 3 (f_X3_put 24 (z6.2 3) a2 (f_X5_sourceOf S a2))) (fun z7 => z7))))))))))
set_option maxRecDepth 100000 in
set_option maxHeartbeats 8000000 in
theorem c_X2_spreadAlong (l : Launch) (g : GT) (h : Nat) (ad : Nat → Nat) (E : CS) (h1 : Nat) (ad1 : Nat → Nat) (S : CS) (a2 : Int32) : CW l yX2_spreadAlong (.code yX2_spreadAlong cX2_spreadAlong 7 none) 2 g [.ref h, .ref h1, .int a2] ((wRe g h ad E) ++ (wSt g h1 ad1 S)) none ((wRe g h ad (f_X2_spreadAlong E S a2)) ++ (wSt g h1 ad1 S)) := by
  obtain ⟨RES, hRES⟩ : ∃ z, z = (f_X2_spreadAlong E S a2) := ⟨_, rfl⟩
  rw [← hRES]
  unfold f_X2_spreadAlong at hRES
  refine CWx.of (nL := 7) (ret := none) (own := RX2) (cc := cX2_spreadAlong) rfl (by decide) rfl (List.forall_mem_cons.mpr ⟨rfl, (List.forall_mem_cons.mpr ⟨rfl, (List.forall_mem_cons.mpr ⟨rfl, (fun _ h => absurd h List.not_mem_nil)⟩)⟩)⟩) (Nat.le_of_ble_eq_true rfl) ?_
  intro k C B hin hkl hkg
  subst hkl; subst hkg
  refine x_loc2 (L' := [some (.ref h), some (.ref h1), some (.int a2), none, none, none, none]) rfl ?_
  refine x_aload_n (pc' := 1) C dX2_spreadAlong_0 rfl rfl rfl ?_
  refine x_iload_n (pc' := 2) C dX2_spreadAlong_1 rfl rfl rfl ?_
  refine x_RV (st := []) (st2 := [.int (f_X5_sourceOf S a2)]) (pc' := 5) C (c_X5_sourceOf (kl k) (kg k) h1 ad1 S a2) cw_X2_47 ok_X5_sourceOf rfl (by decide) 4 rfl rfl [4, 5, 6, 7, 8] rfl rfl rfl (Nat.le_of_ble_eq_true rfl) (Nat.zero_le _) (Nat.zero_le _) rfl dX2_spreadAlong_2 rfl rfl ?_
  refine x_istore_n (pc' := 6) (L' := [some (.ref h), some (.ref h1), some (.int a2), some (.int (f_X5_sourceOf S a2)), none, none, none]) C dX2_spreadAlong_5 rfl rfl (Nat.le_of_ble_eq_true rfl) rfl ?_
  refine x_aload_n (pc' := 7) C dX2_spreadAlong_6 rfl rfl rfl ?_
  refine x_get (pc' := 10) (v := .int (E.1 0)) C 0 0 inBX2 rfl rfl (by decide) fl_X2_27 rfl rfl dX2_spreadAlong_7 rfl ?_
  refine x_iload_n (pc' := 11) C dX2_spreadAlong_10 rfl rfl rfl ?_
  refine x_RS (st := []) (st2 := [.int (bI (f_X4_isIn (E.1 0) a2))]) (pc' := 14) C (c_X4_isIn (kl k) (kg k) (E.1 0) a2) cw_X2_50 ok_X4_isIn (by decide) [] rfl rfl rfl (Nat.le_of_ble_eq_true rfl) (Nat.zero_le _) (Nat.zero_le _) rfl dX2_spreadAlong_11 rfl rfl ?_
  refine x_istore (pc' := 16) (L' := [some (.ref h), some (.ref h1), some (.int a2), some (.int (f_X5_sourceOf S a2)), some (.int (bI (f_X4_isIn (E.1 0) a2))), none, none]) C dX2_spreadAlong_14 rfl (Nat.le_of_ble_eq_true rfl) rfl ?_
  refine x_iload (pc' := 18) C dX2_spreadAlong_16 rfl rfl ?_
  refine x_aload_n (pc' := 19) C dX2_spreadAlong_18 rfl rfl rfl ?_
  refine x_get (pc' := 22) (v := .int (E.1 0)) C 0 0 inBX2 rfl rfl (by decide) fl_X2_27 rfl rfl dX2_spreadAlong_19 rfl ?_
  refine x_iload_n (pc' := 23) C dX2_spreadAlong_22 rfl rfl rfl ?_
  refine x_RS (st := [.int (bI (f_X4_isIn (E.1 0) a2))]) (st2 := [.int (bI (f_X4_isIn (E.1 0) (f_X5_sourceOf S a2))), .int (bI (f_X4_isIn (E.1 0) a2))]) (pc' := 26) C (c_X4_isIn (kl k) (kg k) (E.1 0) (f_X5_sourceOf S a2)) cw_X2_50 ok_X4_isIn (by decide) [] rfl rfl rfl (Nat.le_of_ble_eq_true rfl) (Nat.zero_le _) (Nat.zero_le _) rfl dX2_spreadAlong_23 rfl rfl ?_
  refine x_icmp_ne (tgt := 30) (pc' := 29) C dX2_spreadAlong_26 (by decide) rfl (fun c1 => ?_) (fun c1 => ?_)
  · rw [if_neg c1] at hRES
    refine x_iload (pc' := 32) C dX2_spreadAlong_30 rfl rfl ?_
    refine x_ifB_eq (tgt := 39) (pc' := 35) C dX2_spreadAlong_32 (by decide) rfl (fun c2 => ?_) (fun c2 => ?_)
    · rw [if_neg c2] at hRES
      refine x_iload_n (pc' := 40) C dX2_spreadAlong_39 rfl rfl rfl ?_
      refine x_istore (pc' := 42) (L' := [some (.ref h), some (.ref h1), some (.int a2), some (.int (f_X5_sourceOf S a2)), some (.int (bI (f_X4_isIn (E.1 0) a2))), some (.int (f_X5_sourceOf S a2)), none]) C dX2_spreadAlong_40 rfl (Nat.le_of_ble_eq_true rfl) rfl ?_
      refine x_iload (pc' := 44) C dX2_spreadAlong_42 rfl rfl ?_
      refine x_ifB_eq (tgt := 51) (pc' := 47) C dX2_spreadAlong_44 (by decide) rfl (fun c3 => ?_) (fun c3 => ?_)
      · refine x_iload_n (pc' := 52) C dX2_spreadAlong_51 rfl rfl rfl ?_
        refine x_istore (pc' := 54) (L' := [some (.ref h), some (.ref h1), some (.int a2), some (.int (f_X5_sourceOf S a2)), some (.int (bI (f_X4_isIn (E.1 0) a2))), some (.int (f_X5_sourceOf S a2)), some (.int a2)]) C dX2_spreadAlong_52 rfl (Nat.le_of_ble_eq_true rfl) rfl ?_
        refine x_aload_n (pc' := 55) C dX2_spreadAlong_54 rfl rfl rfl ?_
        refine x_dup (pc' := 56) C dX2_spreadAlong_55 rfl rfl ?_
        refine x_get (pc' := 59) (v := .int (E.1 0)) C 0 0 inBX2 rfl rfl (by decide) fl_X2_27 rfl rfl dX2_spreadAlong_56 rfl ?_
        refine x_iload (pc' := 61) C dX2_spreadAlong_59 rfl rfl ?_
        refine x_RS (st := [.int (E.1 0), .ref h]) (st2 := [.int (f_X4_of a2), .int (E.1 0), .ref h]) (pc' := 64) C (c_X4_of (kl k) (kg k) a2) cw_X2_21 ok_X4_of (by decide) [] rfl rfl rfl (Nat.le_of_ble_eq_true rfl) (Nat.zero_le _) (Nat.zero_le _) rfl dX2_spreadAlong_61 rfl rfl ?_
        refine x_ior (pc' := 65) (v := (E.1 0 ||| (f_X4_of a2))) C dX2_spreadAlong_64 rfl rfl ?_
        obtain ⟨z4, ez4⟩ : ∃ z, z = (setI E 0 (E.1 0 ||| (f_X4_of a2))) := ⟨_, rfl⟩
        replace hRES := bd hRES z4 ez4
        refine x_put (pc' := 68) (w' := (wRe (kg k) h ad z4) ++ (wSt (kg k) h1 ad1 S)) (ty := .int) C B 0 0 inBX2 tyX2 tyX2_ok nmX2 rfl rfl (by decide) fl_X2_27 rfl rfl rfl rfl rfl (Nat.le_of_ble_eq_true rfl) dX2_spreadAlong_65 rfl (by rw [ez4]; rfl) ?_
        refine x_aload_n (pc' := 69) C dX2_spreadAlong_68 rfl rfl rfl ?_
        refine x_get (pc' := 72) (v := .ref (ad 1)) C 0 1 inBX2 rfl rfl (by decide) fl_X2_9 rfl rfl dX2_spreadAlong_69 rfl ?_
        refine x_iload (pc' := 74) C dX2_spreadAlong_72 rfl rfl ?_
        refine x_aload_n (pc' := 75) C dX2_spreadAlong_74 rfl rfl rfl ?_
        refine x_iload (pc' := 77) C dX2_spreadAlong_75 rfl rfl ?_
        refine x_RV (st := [.int a2, .ref (ad 1)]) (st2 := [.int (f_X2_stepsTo z4 (f_X5_sourceOf S a2)), .int a2, .ref (ad 1)]) (pc' := 80) C (c_X2_stepsTo (kl k) (kg k) h ad z4 (f_X5_sourceOf S a2)) cw_X2_54 ok_X2_stepsTo rfl (by decide) 0 rfl rfl [0, 1, 2, 3] rfl rfl rfl (Nat.le_of_ble_eq_true rfl) (Nat.zero_le _) (Nat.zero_le _) rfl dX2_spreadAlong_77 rfl rfl ?_
        refine x_iconst (v := 1) (pc' := 81) C dX2_spreadAlong_80 rfl (by decide) ?_
        refine x_iadd (pc' := 82) (v := ((f_X2_stepsTo z4 (f_X5_sourceOf S a2)) + 1)) C dX2_spreadAlong_81 rfl rfl ?_
        obtain ⟨z5, ez5⟩ : ∃ z, z = (setF z4 1 (f_X3_put 24 (z4.2 1) a2 ((f_X2_stepsTo z4 (f_X5_sourceOf S a2)) + 1))) := ⟨_, rfl⟩
        replace hRES := bd hRES z5 ez5
        refine x_WS (st := []) (st2 := []) (pc' := 85) C B (c_X3_put (kl k) (kg k) (ad 1) 24 (z4.2 1) a2 ((f_X2_stepsTo z4 (f_X5_sourceOf S a2)) + 1) (by decide)) cw_X2_31 ok_X3_put (by decide) [1] [0, 2, 3, 4, 5, 6, 7, 8] [0, 8, 1, 2, 3, 4, 5, 6, 7] ((wRe (kg k) h ad z5) ++ (wSt (kg k) h1 ad1 S)) rfl rfl rfl rfl (by decide) rfl (by rw [ez5]; rfl) rfl (Nat.le_of_ble_eq_true rfl) (Nat.zero_le _) (Nat.zero_le _) rfl dX2_spreadAlong_82 rfl rfl ?_
        refine x_aload_n (pc' := 86) C dX2_spreadAlong_85 rfl rfl rfl ?_
        refine x_get (pc' := 89) (v := .ref (ad 2)) C 0 2 inBX2 rfl rfl (by decide) fl_X2_15 rfl rfl dX2_spreadAlong_86 rfl ?_
        refine x_iload (pc' := 91) C dX2_spreadAlong_89 rfl rfl ?_
        refine x_aload_n (pc' := 92) C dX2_spreadAlong_91 rfl rfl rfl ?_
        refine x_iload (pc' := 94) C dX2_spreadAlong_92 rfl rfl ?_
        refine x_RV (st := [.int a2, .ref (ad 2)]) (st2 := [.int (f_X2_cellsTo z5 (f_X5_sourceOf S a2)), .int a2, .ref (ad 2)]) (pc' := 97) C (c_X2_cellsTo (kl k) (kg k) h ad z5 (f_X5_sourceOf S a2)) cw_X2_57 ok_X2_cellsTo rfl (by decide) 0 rfl rfl [0, 1, 2, 3] rfl rfl rfl (Nat.le_of_ble_eq_true rfl) (Nat.zero_le _) (Nat.zero_le _) rfl dX2_spreadAlong_94 rfl rfl ?_
        refine x_aload_n (pc' := 98) C dX2_spreadAlong_97 rfl rfl rfl ?_
        refine x_iload_n (pc' := 99) C dX2_spreadAlong_98 rfl rfl rfl ?_
        refine x_RV (st := [.int (f_X2_cellsTo z5 (f_X5_sourceOf S a2)), .int a2, .ref (ad 2)]) (st2 := [.int (f_X5_differenceOf S a2), .int (f_X2_cellsTo z5 (f_X5_sourceOf S a2)), .int a2, .ref (ad 2)]) (pc' := 102) C (c_X5_differenceOf (kl k) (kg k) h1 ad1 S a2) cw_X2_60 ok_X5_differenceOf rfl (by decide) 4 rfl rfl [4, 5, 6, 7, 8] rfl rfl rfl (Nat.le_of_ble_eq_true rfl) (Nat.zero_le _) (Nat.zero_le _) rfl dX2_spreadAlong_99 rfl rfl ?_
        refine x_RS (st := [.int (f_X2_cellsTo z5 (f_X5_sourceOf S a2)), .int a2, .ref (ad 2)]) (st2 := [.int (f_J6_bitCount_0f7a4 (f_X5_differenceOf S a2)), .int (f_X2_cellsTo z5 (f_X5_sourceOf S a2)), .int a2, .ref (ad 2)]) (pc' := 105) C (c_J6_bitCount_0f7a4 (kl k) (kg k) (f_X5_differenceOf S a2)) cw_X2_63 ok_J6_bitCount_0f7a4 (by decide) [] rfl rfl rfl (Nat.le_of_ble_eq_true rfl) (Nat.zero_le _) (Nat.zero_le _) rfl dX2_spreadAlong_102 rfl rfl ?_
        refine x_iadd (pc' := 106) (v := ((f_X2_cellsTo z5 (f_X5_sourceOf S a2)) + (f_J6_bitCount_0f7a4 (f_X5_differenceOf S a2)))) C dX2_spreadAlong_105 rfl rfl ?_
        obtain ⟨z6, ez6⟩ : ∃ z, z = (setF z5 2 (f_X3_put 24 (z5.2 2) a2 ((f_X2_cellsTo z5 (f_X5_sourceOf S a2)) + (f_J6_bitCount_0f7a4 (f_X5_differenceOf S a2))))) := ⟨_, rfl⟩
        replace hRES := bd hRES z6 ez6
        refine x_WS (st := []) (st2 := []) (pc' := 109) C B (c_X3_put (kl k) (kg k) (ad 2) 24 (z5.2 2) a2 ((f_X2_cellsTo z5 (f_X5_sourceOf S a2)) + (f_J6_bitCount_0f7a4 (f_X5_differenceOf S a2))) (by decide)) cw_X2_31 ok_X3_put (by decide) [2] [0, 1, 3, 4, 5, 6, 7, 8] [0, 1, 8, 2, 3, 4, 5, 6, 7] ((wRe (kg k) h ad z6) ++ (wSt (kg k) h1 ad1 S)) rfl rfl rfl rfl (by decide) rfl (by rw [ez6]; rfl) rfl (Nat.le_of_ble_eq_true rfl) (Nat.zero_le _) (Nat.zero_le _) rfl dX2_spreadAlong_106 rfl rfl ?_
        refine x_aload_n (pc' := 110) C dX2_spreadAlong_109 rfl rfl rfl ?_
        refine x_get (pc' := 113) (v := .ref (ad 3)) C 0 3 inBX2 rfl rfl (by decide) fl_X2_18 rfl rfl dX2_spreadAlong_110 rfl ?_
        refine x_iload (pc' := 115) C dX2_spreadAlong_113 rfl rfl ?_
        refine x_iload (pc' := 117) C dX2_spreadAlong_115 rfl rfl ?_
        obtain ⟨z7, ez7⟩ : ∃ z, z = (setF z6 3 (f_X3_put 24 (z6.2 3) a2 (f_X5_sourceOf S a2))) := ⟨_, rfl⟩
        replace hRES := bd hRES z7 ez7
        refine x_WS (st := []) (st2 := []) (pc' := 120) C B (c_X3_put (kl k) (kg k) (ad 3) 24 (z6.2 3) a2 (f_X5_sourceOf S a2) (by decide)) cw_X2_31 ok_X3_put (by decide) [3] [0, 1, 2, 4, 5, 6, 7, 8] [0, 1, 2, 8, 3, 4, 5, 6, 7] ((wRe (kg k) h ad z7) ++ (wSt (kg k) h1 ad1 S)) rfl rfl rfl rfl (by decide) rfl (by rw [ez7]; rfl) rfl (Nat.le_of_ble_eq_true rfl) (Nat.zero_le _) (Nat.zero_le _) rfl dX2_spreadAlong_117 rfl rfl ?_
        exact x_vret C (Nat.zero_le _) (Nat.zero_le _) dX2_spreadAlong_120 ⟨rfl, by rw [hRES]⟩
      · exact absurd c3 c2
    · rw [if_pos c2] at hRES
      refine x_iload_n (pc' := 36) C dX2_spreadAlong_35 rfl rfl rfl ?_
      refine x_goto (tgt := 40) C dX2_spreadAlong_36 (by decide) ?_
      refine x_istore (pc' := 42) (L' := [some (.ref h), some (.ref h1), some (.int a2), some (.int (f_X5_sourceOf S a2)), some (.int (bI (f_X4_isIn (E.1 0) a2))), some (.int a2), none]) C dX2_spreadAlong_40 rfl (Nat.le_of_ble_eq_true rfl) rfl ?_
      refine x_iload (pc' := 44) C dX2_spreadAlong_42 rfl rfl ?_
      refine x_ifB_eq (tgt := 51) (pc' := 47) C dX2_spreadAlong_44 (by decide) rfl (fun c8 => ?_) (fun c8 => ?_)
      · exact absurd c2 c8
      · refine x_iload_n (pc' := 48) C dX2_spreadAlong_47 rfl rfl rfl ?_
        refine x_goto (tgt := 52) C dX2_spreadAlong_48 (by decide) ?_
        refine x_istore (pc' := 54) (L' := [some (.ref h), some (.ref h1), some (.int a2), some (.int (f_X5_sourceOf S a2)), some (.int (bI (f_X4_isIn (E.1 0) a2))), some (.int a2), some (.int (f_X5_sourceOf S a2))]) C dX2_spreadAlong_52 rfl (Nat.le_of_ble_eq_true rfl) rfl ?_
        refine x_aload_n (pc' := 55) C dX2_spreadAlong_54 rfl rfl rfl ?_
        refine x_dup (pc' := 56) C dX2_spreadAlong_55 rfl rfl ?_
        refine x_get (pc' := 59) (v := .int (E.1 0)) C 0 0 inBX2 rfl rfl (by decide) fl_X2_27 rfl rfl dX2_spreadAlong_56 rfl ?_
        refine x_iload (pc' := 61) C dX2_spreadAlong_59 rfl rfl ?_
        refine x_RS (st := [.int (E.1 0), .ref h]) (st2 := [.int (f_X4_of (f_X5_sourceOf S a2)), .int (E.1 0), .ref h]) (pc' := 64) C (c_X4_of (kl k) (kg k) (f_X5_sourceOf S a2)) cw_X2_21 ok_X4_of (by decide) [] rfl rfl rfl (Nat.le_of_ble_eq_true rfl) (Nat.zero_le _) (Nat.zero_le _) rfl dX2_spreadAlong_61 rfl rfl ?_
        refine x_ior (pc' := 65) (v := (E.1 0 ||| (f_X4_of (f_X5_sourceOf S a2)))) C dX2_spreadAlong_64 rfl rfl ?_
        obtain ⟨z9, ez9⟩ : ∃ z, z = (setI E 0 (E.1 0 ||| (f_X4_of (f_X5_sourceOf S a2)))) := ⟨_, rfl⟩
        replace hRES := bd hRES z9 ez9
        refine x_put (pc' := 68) (w' := (wRe (kg k) h ad z9) ++ (wSt (kg k) h1 ad1 S)) (ty := .int) C B 0 0 inBX2 tyX2 tyX2_ok nmX2 rfl rfl (by decide) fl_X2_27 rfl rfl rfl rfl rfl (Nat.le_of_ble_eq_true rfl) dX2_spreadAlong_65 rfl (by rw [ez9]; rfl) ?_
        refine x_aload_n (pc' := 69) C dX2_spreadAlong_68 rfl rfl rfl ?_
        refine x_get (pc' := 72) (v := .ref (ad 1)) C 0 1 inBX2 rfl rfl (by decide) fl_X2_9 rfl rfl dX2_spreadAlong_69 rfl ?_
        refine x_iload (pc' := 74) C dX2_spreadAlong_72 rfl rfl ?_
        refine x_aload_n (pc' := 75) C dX2_spreadAlong_74 rfl rfl rfl ?_
        refine x_iload (pc' := 77) C dX2_spreadAlong_75 rfl rfl ?_
        refine x_RV (st := [.int (f_X5_sourceOf S a2), .ref (ad 1)]) (st2 := [.int (f_X2_stepsTo z9 a2), .int (f_X5_sourceOf S a2), .ref (ad 1)]) (pc' := 80) C (c_X2_stepsTo (kl k) (kg k) h ad z9 a2) cw_X2_54 ok_X2_stepsTo rfl (by decide) 0 rfl rfl [0, 1, 2, 3] rfl rfl rfl (Nat.le_of_ble_eq_true rfl) (Nat.zero_le _) (Nat.zero_le _) rfl dX2_spreadAlong_77 rfl rfl ?_
        refine x_iconst (v := 1) (pc' := 81) C dX2_spreadAlong_80 rfl (by decide) ?_
        refine x_iadd (pc' := 82) (v := ((f_X2_stepsTo z9 a2) + 1)) C dX2_spreadAlong_81 rfl rfl ?_
        obtain ⟨z10, ez10⟩ : ∃ z, z = (setF z9 1 (f_X3_put 24 (z9.2 1) (f_X5_sourceOf S a2) ((f_X2_stepsTo z9 a2) + 1))) := ⟨_, rfl⟩
        replace hRES := bd hRES z10 ez10
        refine x_WS (st := []) (st2 := []) (pc' := 85) C B (c_X3_put (kl k) (kg k) (ad 1) 24 (z9.2 1) (f_X5_sourceOf S a2) ((f_X2_stepsTo z9 a2) + 1) (by decide)) cw_X2_31 ok_X3_put (by decide) [1] [0, 2, 3, 4, 5, 6, 7, 8] [0, 8, 1, 2, 3, 4, 5, 6, 7] ((wRe (kg k) h ad z10) ++ (wSt (kg k) h1 ad1 S)) rfl rfl rfl rfl (by decide) rfl (by rw [ez10]; rfl) rfl (Nat.le_of_ble_eq_true rfl) (Nat.zero_le _) (Nat.zero_le _) rfl dX2_spreadAlong_82 rfl rfl ?_
        refine x_aload_n (pc' := 86) C dX2_spreadAlong_85 rfl rfl rfl ?_
        refine x_get (pc' := 89) (v := .ref (ad 2)) C 0 2 inBX2 rfl rfl (by decide) fl_X2_15 rfl rfl dX2_spreadAlong_86 rfl ?_
        refine x_iload (pc' := 91) C dX2_spreadAlong_89 rfl rfl ?_
        refine x_aload_n (pc' := 92) C dX2_spreadAlong_91 rfl rfl rfl ?_
        refine x_iload (pc' := 94) C dX2_spreadAlong_92 rfl rfl ?_
        refine x_RV (st := [.int (f_X5_sourceOf S a2), .ref (ad 2)]) (st2 := [.int (f_X2_cellsTo z10 a2), .int (f_X5_sourceOf S a2), .ref (ad 2)]) (pc' := 97) C (c_X2_cellsTo (kl k) (kg k) h ad z10 a2) cw_X2_57 ok_X2_cellsTo rfl (by decide) 0 rfl rfl [0, 1, 2, 3] rfl rfl rfl (Nat.le_of_ble_eq_true rfl) (Nat.zero_le _) (Nat.zero_le _) rfl dX2_spreadAlong_94 rfl rfl ?_
        refine x_aload_n (pc' := 98) C dX2_spreadAlong_97 rfl rfl rfl ?_
        refine x_iload_n (pc' := 99) C dX2_spreadAlong_98 rfl rfl rfl ?_
        refine x_RV (st := [.int (f_X2_cellsTo z10 a2), .int (f_X5_sourceOf S a2), .ref (ad 2)]) (st2 := [.int (f_X5_differenceOf S a2), .int (f_X2_cellsTo z10 a2), .int (f_X5_sourceOf S a2), .ref (ad 2)]) (pc' := 102) C (c_X5_differenceOf (kl k) (kg k) h1 ad1 S a2) cw_X2_60 ok_X5_differenceOf rfl (by decide) 4 rfl rfl [4, 5, 6, 7, 8] rfl rfl rfl (Nat.le_of_ble_eq_true rfl) (Nat.zero_le _) (Nat.zero_le _) rfl dX2_spreadAlong_99 rfl rfl ?_
        refine x_RS (st := [.int (f_X2_cellsTo z10 a2), .int (f_X5_sourceOf S a2), .ref (ad 2)]) (st2 := [.int (f_J6_bitCount_0f7a4 (f_X5_differenceOf S a2)), .int (f_X2_cellsTo z10 a2), .int (f_X5_sourceOf S a2), .ref (ad 2)]) (pc' := 105) C (c_J6_bitCount_0f7a4 (kl k) (kg k) (f_X5_differenceOf S a2)) cw_X2_63 ok_J6_bitCount_0f7a4 (by decide) [] rfl rfl rfl (Nat.le_of_ble_eq_true rfl) (Nat.zero_le _) (Nat.zero_le _) rfl dX2_spreadAlong_102 rfl rfl ?_
        refine x_iadd (pc' := 106) (v := ((f_X2_cellsTo z10 a2) + (f_J6_bitCount_0f7a4 (f_X5_differenceOf S a2)))) C dX2_spreadAlong_105 rfl rfl ?_
        obtain ⟨z11, ez11⟩ : ∃ z, z = (setF z10 2 (f_X3_put 24 (z10.2 2) (f_X5_sourceOf S a2) ((f_X2_cellsTo z10 a2) + (f_J6_bitCount_0f7a4 (f_X5_differenceOf S a2))))) := ⟨_, rfl⟩
        replace hRES := bd hRES z11 ez11
        refine x_WS (st := []) (st2 := []) (pc' := 109) C B (c_X3_put (kl k) (kg k) (ad 2) 24 (z10.2 2) (f_X5_sourceOf S a2) ((f_X2_cellsTo z10 a2) + (f_J6_bitCount_0f7a4 (f_X5_differenceOf S a2))) (by decide)) cw_X2_31 ok_X3_put (by decide) [2] [0, 1, 3, 4, 5, 6, 7, 8] [0, 1, 8, 2, 3, 4, 5, 6, 7] ((wRe (kg k) h ad z11) ++ (wSt (kg k) h1 ad1 S)) rfl rfl rfl rfl (by decide) rfl (by rw [ez11]; rfl) rfl (Nat.le_of_ble_eq_true rfl) (Nat.zero_le _) (Nat.zero_le _) rfl dX2_spreadAlong_106 rfl rfl ?_
        refine x_aload_n (pc' := 110) C dX2_spreadAlong_109 rfl rfl rfl ?_
        refine x_get (pc' := 113) (v := .ref (ad 3)) C 0 3 inBX2 rfl rfl (by decide) fl_X2_18 rfl rfl dX2_spreadAlong_110 rfl ?_
        refine x_iload (pc' := 115) C dX2_spreadAlong_113 rfl rfl ?_
        refine x_iload (pc' := 117) C dX2_spreadAlong_115 rfl rfl ?_
        obtain ⟨z12, ez12⟩ : ∃ z, z = (setF z11 3 (f_X3_put 24 (z11.2 3) (f_X5_sourceOf S a2) a2)) := ⟨_, rfl⟩
        replace hRES := bd hRES z12 ez12
        refine x_WS (st := []) (st2 := []) (pc' := 120) C B (c_X3_put (kl k) (kg k) (ad 3) 24 (z11.2 3) (f_X5_sourceOf S a2) a2 (by decide)) cw_X2_31 ok_X3_put (by decide) [3] [0, 1, 2, 4, 5, 6, 7, 8] [0, 1, 2, 8, 3, 4, 5, 6, 7] ((wRe (kg k) h ad z12) ++ (wSt (kg k) h1 ad1 S)) rfl rfl rfl rfl (by decide) rfl (by rw [ez12]; rfl) rfl (Nat.le_of_ble_eq_true rfl) (Nat.zero_le _) (Nat.zero_le _) rfl dX2_spreadAlong_117 rfl rfl ?_
        exact x_vret C (Nat.zero_le _) (Nat.zero_le _) dX2_spreadAlong_120 ⟨rfl, by rw [hRES]⟩
  · rw [if_pos c1] at hRES
    exact x_vret C (Nat.zero_le _) (Nat.zero_le _) dX2_spreadAlong_29 ⟨rfl, by rw [hRES]⟩

def k_X2_spread_98 (E_98 : CS) : CS := E_98
def k_X2_spread_92 (rec_l_X2_spread_40 : CS → Int32 → Nat → CS) (E_40 : CS) (i4_40 : Nat) (E_92 : CS) : CS := (rec_l_X2_spread_40 E_92 (E_40.1 0) (i4_40 + 1))
def l_X2_spread_63 (rec_l_X2_spread_40 : CS → Int32 → Nat → CS) (S : CS) (E_40 : CS) (i4_40 : Nat) : Nat → CS → Nat → CS
  | 0, _, _ => dfCS
  | n63 + 1, E_63, i5_63 => (if i5_63 < 24 then (if (f_X5_isKept S (nI i5_63)) = true then (bind1 (f_X2_spreadAlong E_63 S (nI i5_63)) (fun z9 => (l_X2_spread_63 rec_l_X2_spread_40 S E_40 i4_40 n63 z9 (i5_63 + 1)))) else (l_X2_spread_63 rec_l_X2_spread_40 S E_40 i4_40 n63 E_63 (i5_63 + 1))) else (k_X2_spread_92 rec_l_X2_spread_40 E_40 i4_40 E_63))
def l_X2_spread_40 (S : CS) : Nat → CS → Int32 → Nat → CS
  | 0, _, _, _ => dfCS
  | n40 + 1, E_40, x3_40, i4_40 => (if i4_40 < 24 then (if E_40.1 0 = x3_40 then (k_X2_spread_98 E_40) else (l_X2_spread_63 (fun E_40 x3_40 i4_40 => l_X2_spread_40 S n40 E_40 x3_40 i4_40) S E_40 i4_40 24 E_40 1)) else (k_X2_spread_98 E_40))
def f_X2_spread (E : CS) (S : CS) (a2 : Int32) : CS := (bind1 (setI E 0 (f_X4_of a2)) (fun z1 => (bind1 (setF z1 1 (f_X3_put 24 (z1.2 1) a2 0)) (fun z2 => (bind1 (setF z2 2 (f_X3_put 24 (z2.2 2) a2 0)) (fun z3 => (bind1 (setF z3 3 (f_X3_put 24 (z3.2 3) a2 a2)) (fun z4 => (l_X2_spread_40 S 25 z4 0 0)))))))))
set_option maxRecDepth 100000 in
set_option maxHeartbeats 8000000 in
theorem c_X2_spread (l : Launch) (g : GT) (h : Nat) (ad : Nat → Nat) (E : CS) (h1 : Nat) (ad1 : Nat → Nat) (S : CS) (a2 : Int32) : CW l yX2_spread (.code yX2_spread cX2_spread 6 none) 3 g [.ref h, .ref h1, .int a2] ((wRe g h ad E) ++ (wSt g h1 ad1 S)) none ((wRe g h ad (f_X2_spread E S a2)) ++ (wSt g h1 ad1 S)) := by
  obtain ⟨RES, hRES⟩ : ∃ z, z = (f_X2_spread E S a2) := ⟨_, rfl⟩
  rw [← hRES]
  unfold f_X2_spread at hRES
  refine CWx.of (nL := 6) (ret := none) (own := RX2) (cc := cX2_spread) rfl (by decide) rfl (List.forall_mem_cons.mpr ⟨rfl, (List.forall_mem_cons.mpr ⟨rfl, (List.forall_mem_cons.mpr ⟨rfl, (fun _ h => absurd h List.not_mem_nil)⟩)⟩)⟩) (Nat.le_of_ble_eq_true rfl) ?_
  intro k C B hin hkl hkg
  subst hkl; subst hkg
  refine x_loc2 (L' := [some (.ref h), some (.ref h1), some (.int a2), none, none, none]) rfl ?_
  refine x_aload_n (pc' := 1) C dX2_spread_0 rfl rfl rfl ?_
  refine x_iload_n (pc' := 2) C dX2_spread_1 rfl rfl rfl ?_
  refine x_RS (st := [.ref h]) (st2 := [.int (f_X4_of a2), .ref h]) (pc' := 5) C (c_X4_of (kl k) (kg k) a2) cw_X2_21 ok_X4_of (by decide) [] rfl rfl rfl (Nat.le_of_ble_eq_true rfl) (Nat.zero_le _) (Nat.zero_le _) rfl dX2_spread_2 rfl rfl ?_
  obtain ⟨z1, ez1⟩ : ∃ z, z = (setI E 0 (f_X4_of a2)) := ⟨_, rfl⟩
  replace hRES := bd hRES z1 ez1
  refine x_put (pc' := 8) (w' := (wRe (kg k) h ad z1) ++ (wSt (kg k) h1 ad1 S)) (ty := .int) C B 0 0 inBX2 tyX2 tyX2_ok nmX2 rfl rfl (by decide) fl_X2_27 rfl rfl rfl rfl rfl (Nat.le_of_ble_eq_true rfl) dX2_spread_5 rfl (by rw [ez1]; rfl) ?_
  refine x_aload_n (pc' := 9) C dX2_spread_8 rfl rfl rfl ?_
  refine x_get (pc' := 12) (v := .ref (ad 1)) C 0 1 inBX2 rfl rfl (by decide) fl_X2_9 rfl rfl dX2_spread_9 rfl ?_
  refine x_iload_n (pc' := 13) C dX2_spread_12 rfl rfl rfl ?_
  refine x_iconst (v := 0) (pc' := 14) C dX2_spread_13 rfl (by decide) ?_
  obtain ⟨z2, ez2⟩ : ∃ z, z = (setF z1 1 (f_X3_put 24 (z1.2 1) a2 0)) := ⟨_, rfl⟩
  replace hRES := bd hRES z2 ez2
  refine x_WS (st := []) (st2 := []) (pc' := 17) C B (c_X3_put (kl k) (kg k) (ad 1) 24 (z1.2 1) a2 0 (by decide)) cw_X2_31 ok_X3_put (by decide) [1] [0, 2, 3, 4, 5, 6, 7, 8] [0, 8, 1, 2, 3, 4, 5, 6, 7] ((wRe (kg k) h ad z2) ++ (wSt (kg k) h1 ad1 S)) rfl rfl rfl rfl (by decide) rfl (by rw [ez2]; rfl) rfl (Nat.le_of_ble_eq_true rfl) (Nat.zero_le _) (Nat.zero_le _) rfl dX2_spread_14 rfl rfl ?_
  refine x_aload_n (pc' := 18) C dX2_spread_17 rfl rfl rfl ?_
  refine x_get (pc' := 21) (v := .ref (ad 2)) C 0 2 inBX2 rfl rfl (by decide) fl_X2_15 rfl rfl dX2_spread_18 rfl ?_
  refine x_iload_n (pc' := 22) C dX2_spread_21 rfl rfl rfl ?_
  refine x_iconst (v := 0) (pc' := 23) C dX2_spread_22 rfl (by decide) ?_
  obtain ⟨z3, ez3⟩ : ∃ z, z = (setF z2 2 (f_X3_put 24 (z2.2 2) a2 0)) := ⟨_, rfl⟩
  replace hRES := bd hRES z3 ez3
  refine x_WS (st := []) (st2 := []) (pc' := 26) C B (c_X3_put (kl k) (kg k) (ad 2) 24 (z2.2 2) a2 0 (by decide)) cw_X2_31 ok_X3_put (by decide) [2] [0, 1, 3, 4, 5, 6, 7, 8] [0, 1, 8, 2, 3, 4, 5, 6, 7] ((wRe (kg k) h ad z3) ++ (wSt (kg k) h1 ad1 S)) rfl rfl rfl rfl (by decide) rfl (by rw [ez3]; rfl) rfl (Nat.le_of_ble_eq_true rfl) (Nat.zero_le _) (Nat.zero_le _) rfl dX2_spread_23 rfl rfl ?_
  refine x_aload_n (pc' := 27) C dX2_spread_26 rfl rfl rfl ?_
  refine x_get (pc' := 30) (v := .ref (ad 3)) C 0 3 inBX2 rfl rfl (by decide) fl_X2_18 rfl rfl dX2_spread_27 rfl ?_
  refine x_iload_n (pc' := 31) C dX2_spread_30 rfl rfl rfl ?_
  refine x_iload_n (pc' := 32) C dX2_spread_31 rfl rfl rfl ?_
  obtain ⟨z4, ez4⟩ : ∃ z, z = (setF z3 3 (f_X3_put 24 (z3.2 3) a2 a2)) := ⟨_, rfl⟩
  replace hRES := bd hRES z4 ez4
  refine x_WS (st := []) (st2 := []) (pc' := 35) C B (c_X3_put (kl k) (kg k) (ad 3) 24 (z3.2 3) a2 a2 (by decide)) cw_X2_31 ok_X3_put (by decide) [3] [0, 1, 2, 4, 5, 6, 7, 8] [0, 1, 2, 8, 3, 4, 5, 6, 7] ((wRe (kg k) h ad z4) ++ (wSt (kg k) h1 ad1 S)) rfl rfl rfl rfl (by decide) rfl (by rw [ez4]; rfl) rfl (Nat.le_of_ble_eq_true rfl) (Nat.zero_le _) (Nat.zero_le _) rfl dX2_spread_32 rfl rfl ?_
  refine x_iconst (v := 0) (pc' := 36) C dX2_spread_35 rfl (by decide) ?_
  refine x_istore_n (pc' := 37) (L' := [some (.ref h), some (.ref h1), some (.int a2), some (.int 0), none, none]) C dX2_spread_36 rfl rfl (Nat.le_of_ble_eq_true rfl) rfl ?_
  refine x_iconst (v := 0) (pc' := 38) C dX2_spread_37 rfl (by decide) ?_
  refine x_istore (pc' := 40) (L' := [some (.ref h), some (.ref h1), some (.int a2), some (.int 0), some (.int 0), none]) C dX2_spread_38 rfl (Nat.le_of_ble_eq_true rfl) rfl ?_
  have cont98 : ∀ (E_98 : CS), RES = k_X2_spread_98 E_98 → X k 0 0 ((wRe (kg k) h ad E_98) ++ (wSt (kg k) h1 ad1 S)) 98 [none, none, none, none, none, none] [] := by
    intro E_98 hRES
    unfold k_X2_spread_98 at hRES
    exact x_vret C (Nat.zero_le _) (Nat.zero_le _) dX2_spread_98 ⟨rfl, by rw [hRES]⟩
  have loop40 : ∀ (n40 : Nat) (E_40 : CS) (x3_40 : Int32) (i4_40 : Nat), i4_40 ≤ 24 → 24 < i4_40 + n40 → RES = l_X2_spread_40 S n40 E_40 x3_40 i4_40 → X k 0 0 ((wRe (kg k) h ad E_40) ++ (wSt (kg k) h1 ad1 S)) 40 [some (.ref h), some (.ref h1), none, some (.int x3_40), some (.int (nI i4_40)), none] [] := by
    intro n40
    induction n40 with
    | zero =>
      intro E_40 x3_40 i4_40 hb40 hf40 hRES
      omega
    | succ n40 ih40 =>
      intro E_40 x3_40 i4_40 hb40 hf40 hRES
      rw [l_X2_spread_40] at hRES
      refine x_iload (pc' := 42) C dX2_spread_40 rfl rfl ?_
      refine x_bipush (v := 24) (pc' := 44) C dX2_spread_42 rfl (by decide) ?_
      refine x_icmpN_ge (tgt := 98) (pc' := 47) C i4_40 24 dX2_spread_44 (by decide) rfl (by omega) (by omega) (fun c5 => ?_) (fun c5 => ?_)
      · rw [if_neg c5] at hRES
        refine x_forget (L' := [none, none, none, none, none, none]) [] rfl rfl ?_
        exact cont98 E_40 hRES
      · rw [if_pos c5] at hRES
        refine x_aload_n (pc' := 48) C dX2_spread_47 rfl rfl rfl ?_
        refine x_get (pc' := 51) (v := .int (E_40.1 0)) C 0 0 inBX2 rfl rfl (by decide) fl_X2_27 rfl rfl dX2_spread_48 rfl ?_
        refine x_iload_n (pc' := 52) C dX2_spread_51 rfl rfl rfl ?_
        refine x_icmp_eq (tgt := 98) (pc' := 55) C dX2_spread_52 (by decide) rfl (fun c6 => ?_) (fun c6 => ?_)
        · rw [if_pos c6] at hRES
          refine x_forget (L' := [none, none, none, none, none, none]) [] rfl rfl ?_
          exact cont98 E_40 hRES
        · rw [if_neg c6] at hRES
          refine x_aload_n (pc' := 56) C dX2_spread_55 rfl rfl rfl ?_
          refine x_get (pc' := 59) (v := .int (E_40.1 0)) C 0 0 inBX2 rfl rfl (by decide) fl_X2_27 rfl rfl dX2_spread_56 rfl ?_
          refine x_istore_n (pc' := 60) (L' := [some (.ref h), some (.ref h1), none, some (.int (E_40.1 0)), some (.int (nI i4_40)), none]) C dX2_spread_59 rfl rfl (Nat.le_of_ble_eq_true rfl) rfl ?_
          refine x_iconst (v := 1) (pc' := 61) C dX2_spread_60 rfl (by decide) ?_
          refine x_istore (pc' := 63) (L' := [some (.ref h), some (.ref h1), none, some (.int (E_40.1 0)), some (.int (nI i4_40)), some (.int 1)]) C dX2_spread_61 rfl (Nat.le_of_ble_eq_true rfl) rfl ?_
          have cont92 : ∀ (E_92 : CS), RES = k_X2_spread_92 (fun E_40 x3_40 i4_40 => l_X2_spread_40 S n40 E_40 x3_40 i4_40) E_40 i4_40 E_92 → X k 0 0 ((wRe (kg k) h ad E_92) ++ (wSt (kg k) h1 ad1 S)) 92 [some (.ref h), some (.ref h1), none, some (.int (E_40.1 0)), some (.int (nI i4_40)), none] [] := by
            intro E_92 hRES
            unfold k_X2_spread_92 at hRES
            refine x_iinc (pc' := 95) (v := (nI (i4_40 + 1))) (L' := [some (.ref h), some (.ref h1), none, some (.int (E_40.1 0)), some (.int (nI (i4_40 + 1))), none]) C dX2_spread_92 rfl rfl (nI_add i4_40 1) (Nat.le_of_ble_eq_true rfl) rfl ?_
            refine x_goto (tgt := 40) C dX2_spread_95 (by decide) ?_
            exact ih40 E_92 (E_40.1 0) (i4_40 + 1) (by omega) (by omega) hRES
          have loop63 : ∀ (n63 : Nat) (E_63 : CS) (i5_63 : Nat), i5_63 ≤ 24 → 24 < i5_63 + n63 → RES = l_X2_spread_63 (fun E_40 x3_40 i4_40 => l_X2_spread_40 S n40 E_40 x3_40 i4_40) S E_40 i4_40 n63 E_63 i5_63 → X k 0 0 ((wRe (kg k) h ad E_63) ++ (wSt (kg k) h1 ad1 S)) 63 [some (.ref h), some (.ref h1), none, some (.int (E_40.1 0)), some (.int (nI i4_40)), some (.int (nI i5_63))] [] := by
            intro n63
            induction n63 with
            | zero =>
              intro E_63 i5_63 hb63 hf63 hRES
              omega
            | succ n63 ih63 =>
              intro E_63 i5_63 hb63 hf63 hRES
              rw [l_X2_spread_63] at hRES
              refine x_iload (pc' := 65) C dX2_spread_63 rfl rfl ?_
              refine x_bipush (v := 24) (pc' := 67) C dX2_spread_65 rfl (by decide) ?_
              refine x_icmpN_ge (tgt := 92) (pc' := 70) C i5_63 24 dX2_spread_67 (by decide) rfl (by omega) (by omega) (fun c7 => ?_) (fun c7 => ?_)
              · rw [if_neg c7] at hRES
                refine x_forget (L' := [some (.ref h), some (.ref h1), none, some (.int (E_40.1 0)), some (.int (nI i4_40)), none]) [0, 1, 2, 3] rfl rfl ?_
                exact cont92 E_63 hRES
              · rw [if_pos c7] at hRES
                refine x_aload_n (pc' := 71) C dX2_spread_70 rfl rfl rfl ?_
                refine x_iload (pc' := 73) C dX2_spread_71 rfl rfl ?_
                refine x_RV (st := []) (st2 := [.int (bI (f_X5_isKept S (nI i5_63)))]) (pc' := 76) C (c_X5_isKept (kl k) (kg k) h1 ad1 S (nI i5_63)) cw_X2_37 ok_X5_isKept rfl (by decide) 4 rfl rfl [4, 5, 6, 7, 8] rfl rfl rfl (Nat.le_of_ble_eq_true rfl) (Nat.zero_le _) (Nat.zero_le _) rfl dX2_spread_73 rfl rfl ?_
                refine x_ifB_eq (tgt := 86) (pc' := 79) C dX2_spread_76 (by decide) rfl (fun c8 => ?_) (fun c8 => ?_)
                · rw [if_neg c8] at hRES
                  refine x_iinc (pc' := 89) (v := (nI (i5_63 + 1))) (L' := [some (.ref h), some (.ref h1), none, some (.int (E_40.1 0)), some (.int (nI i4_40)), some (.int (nI (i5_63 + 1)))]) C dX2_spread_86 rfl rfl (nI_add i5_63 1) (Nat.le_of_ble_eq_true rfl) rfl ?_
                  refine x_goto (tgt := 63) C dX2_spread_89 (by decide) ?_
                  exact ih63 E_63 (i5_63 + 1) (by omega) (by omega) hRES
                · rw [if_pos c8] at hRES
                  refine x_aload_n (pc' := 80) C dX2_spread_79 rfl rfl rfl ?_
                  refine x_aload_n (pc' := 81) C dX2_spread_80 rfl rfl rfl ?_
                  refine x_iload (pc' := 83) C dX2_spread_81 rfl rfl ?_
                  obtain ⟨z9, ez9⟩ : ∃ z, z = (f_X2_spreadAlong E_63 S (nI i5_63)) := ⟨_, rfl⟩
                  replace hRES := bd hRES z9 ez9
                  have hc := c_X2_spreadAlong (kl k) (kg k) h ad E_63 h1 ad1 S (nI i5_63)
                  rw [← ez9] at hc
                  refine x_WV (st := []) (st2 := []) (pc' := 86) C B hc cw_X2_43 ok_X2_spreadAlong rfl (by decide) 0 rfl rfl [0, 1, 2, 3, 4, 5, 6, 7, 8] [] [0, 1, 2, 3, 4, 5, 6, 7, 8] ((wRe (kg k) h ad z9) ++ (wSt (kg k) h1 ad1 S)) rfl rfl rfl rfl (by decide) rfl rfl rfl (Nat.le_of_ble_eq_true rfl) (Nat.zero_le _) (Nat.zero_le _) rfl dX2_spread_83 rfl rfl ?_
                  refine x_iinc (pc' := 89) (v := (nI (i5_63 + 1))) (L' := [some (.ref h), some (.ref h1), none, some (.int (E_40.1 0)), some (.int (nI i4_40)), some (.int (nI (i5_63 + 1)))]) C dX2_spread_86 rfl rfl (nI_add i5_63 1) (Nat.le_of_ble_eq_true rfl) rfl ?_
                  refine x_goto (tgt := 63) C dX2_spread_89 (by decide) ?_
                  exact ih63 z9 (i5_63 + 1) (by omega) (by omega) hRES
          exact loop63 24 E_40 1 (by omega) (by omega) hRES
  refine x_forget (L' := [some (.ref h), some (.ref h1), none, some (.int 0), some (.int 0), none]) [0, 1, 3, 4] rfl rfl ?_
  exact loop40 25 z4 0 0 (by omega) (by omega) hRES

def f_J6_numberOfTrailingZeros_0f7a4 (a1 : Int32) : Int32 := (if 0 < ((a1 ^^^ (-1)) &&& (a1 - 1)) then (if 65536 < ((a1 ^^^ (-1)) &&& (a1 - 1)) then (if 256 < (ushr ((a1 ^^^ (-1)) &&& (a1 - 1)) 16) then (if 16 < (ushr (ushr ((a1 ^^^ (-1)) &&& (a1 - 1)) 16) 8) then (if 4 < (ushr (ushr (ushr ((a1 ^^^ (-1)) &&& (a1 - 1)) 16) 8) 4) then (31 + (ushr (ushr (ushr (ushr (ushr ((a1 ^^^ (-1)) &&& (a1 - 1)) 16) 8) 4) 2) 1)) else (29 + (ushr (ushr (ushr (ushr ((a1 ^^^ (-1)) &&& (a1 - 1)) 16) 8) 4) 1))) else (if 4 < (ushr (ushr ((a1 ^^^ (-1)) &&& (a1 - 1)) 16) 8) then (27 + (ushr (ushr (ushr (ushr ((a1 ^^^ (-1)) &&& (a1 - 1)) 16) 8) 2) 1)) else (25 + (ushr (ushr (ushr ((a1 ^^^ (-1)) &&& (a1 - 1)) 16) 8) 1)))) else (if 16 < (ushr ((a1 ^^^ (-1)) &&& (a1 - 1)) 16) then (if 4 < (ushr (ushr ((a1 ^^^ (-1)) &&& (a1 - 1)) 16) 4) then (23 + (ushr (ushr (ushr (ushr ((a1 ^^^ (-1)) &&& (a1 - 1)) 16) 4) 2) 1)) else (21 + (ushr (ushr (ushr ((a1 ^^^ (-1)) &&& (a1 - 1)) 16) 4) 1))) else (if 4 < (ushr ((a1 ^^^ (-1)) &&& (a1 - 1)) 16) then (19 + (ushr (ushr (ushr ((a1 ^^^ (-1)) &&& (a1 - 1)) 16) 2) 1)) else (17 + (ushr (ushr ((a1 ^^^ (-1)) &&& (a1 - 1)) 16) 1))))) else (if 256 < ((a1 ^^^ (-1)) &&& (a1 - 1)) then (if 16 < (ushr ((a1 ^^^ (-1)) &&& (a1 - 1)) 8) then (if 4 < (ushr (ushr ((a1 ^^^ (-1)) &&& (a1 - 1)) 8) 4) then (15 + (ushr (ushr (ushr (ushr ((a1 ^^^ (-1)) &&& (a1 - 1)) 8) 4) 2) 1)) else (13 + (ushr (ushr (ushr ((a1 ^^^ (-1)) &&& (a1 - 1)) 8) 4) 1))) else (if 4 < (ushr ((a1 ^^^ (-1)) &&& (a1 - 1)) 8) then (11 + (ushr (ushr (ushr ((a1 ^^^ (-1)) &&& (a1 - 1)) 8) 2) 1)) else (9 + (ushr (ushr ((a1 ^^^ (-1)) &&& (a1 - 1)) 8) 1)))) else (if 16 < ((a1 ^^^ (-1)) &&& (a1 - 1)) then (if 4 < (ushr ((a1 ^^^ (-1)) &&& (a1 - 1)) 4) then (7 + (ushr (ushr (ushr ((a1 ^^^ (-1)) &&& (a1 - 1)) 4) 2) 1)) else (5 + (ushr (ushr ((a1 ^^^ (-1)) &&& (a1 - 1)) 4) 1))) else (if 4 < ((a1 ^^^ (-1)) &&& (a1 - 1)) then (3 + (ushr (ushr ((a1 ^^^ (-1)) &&& (a1 - 1)) 2) 1)) else (1 + (ushr ((a1 ^^^ (-1)) &&& (a1 - 1)) 1)))))) else (((a1 ^^^ (-1)) &&& (a1 - 1)) &&& 32))
set_option maxRecDepth 100000 in
set_option maxHeartbeats 8000000 in
theorem c_J6_numberOfTrailingZeros_0f7a4 (l : Launch) (g : GT) (a1 : Int32) : CR l yJ6_numberOfTrailingZeros_0f7a4 (.code yJ6_numberOfTrailingZeros_0f7a4 cJ6_numberOfTrailingZeros_0f7a4 2 (some .int)) 0 g [.int a1] ([]) (some (.int (f_J6_numberOfTrailingZeros_0f7a4 a1))) := by
  obtain ⟨RES, hRES⟩ : ∃ z, z = (f_J6_numberOfTrailingZeros_0f7a4 a1) := ⟨_, rfl⟩
  rw [← hRES]
  unfold f_J6_numberOfTrailingZeros_0f7a4 at hRES
  refine CRx.of (nL := 2) (ret := (some .int)) (own := RJ6) (cc := cJ6_numberOfTrailingZeros_0f7a4) rfl (by decide) rfl (List.forall_mem_cons.mpr ⟨rfl, (fun _ h => absurd h List.not_mem_nil)⟩) (Nat.le_of_ble_eq_true rfl) ?_
  intro k C hkl hkg
  subst hkl; subst hkg
  refine x_loc2 (L' := [some (.int a1), none]) rfl ?_
  refine x_iload_n (pc' := 1) C dJ6_numberOfTrailingZeros_0f7a4_0 rfl rfl rfl ?_
  refine x_iconst (v := (-1)) (pc' := 2) C dJ6_numberOfTrailingZeros_0f7a4_1 rfl (by decide) ?_
  refine x_ixor (pc' := 3) (v := (a1 ^^^ (-1))) C dJ6_numberOfTrailingZeros_0f7a4_2 rfl rfl ?_
  refine x_iload_n (pc' := 4) C dJ6_numberOfTrailingZeros_0f7a4_3 rfl rfl rfl ?_
  refine x_iconst (v := 1) (pc' := 5) C dJ6_numberOfTrailingZeros_0f7a4_4 rfl (by decide) ?_
  refine x_isub (pc' := 6) (v := (a1 - 1)) C dJ6_numberOfTrailingZeros_0f7a4_5 rfl rfl ?_
  refine x_iand (pc' := 7) (v := ((a1 ^^^ (-1)) &&& (a1 - 1))) C dJ6_numberOfTrailingZeros_0f7a4_6 rfl rfl ?_
  refine x_istore_n (pc' := 8) (L' := [some (.int ((a1 ^^^ (-1)) &&& (a1 - 1))), none]) C dJ6_numberOfTrailingZeros_0f7a4_7 rfl rfl (Nat.le_of_ble_eq_true rfl) rfl ?_
  refine x_iload_n (pc' := 9) C dJ6_numberOfTrailingZeros_0f7a4_8 rfl rfl rfl ?_
  refine x_if_gt (tgt := 17) (pc' := 12) C dJ6_numberOfTrailingZeros_0f7a4_9 (by decide) rfl (fun c1 => ?_) (fun c1 => ?_)
  · rw [if_pos c1] at hRES
    refine x_iconst (v := 1) (pc' := 18) C dJ6_numberOfTrailingZeros_0f7a4_17 rfl (by decide) ?_
    refine x_istore_n (pc' := 19) (L' := [some (.int ((a1 ^^^ (-1)) &&& (a1 - 1))), some (.int 1)]) C dJ6_numberOfTrailingZeros_0f7a4_18 rfl rfl (Nat.le_of_ble_eq_true rfl) rfl ?_
    refine x_iload_n (pc' := 20) C dJ6_numberOfTrailingZeros_0f7a4_19 rfl rfl rfl ?_
    refine x_ldcw (v := 65536) (pc' := 23) C kn_J6_264 dJ6_numberOfTrailingZeros_0f7a4_20 rfl ?_
    refine x_icmp_le (tgt := 34) (pc' := 26) C dJ6_numberOfTrailingZeros_0f7a4_23 (by decide) rfl (fun c2 => ?_) (fun c2 => ?_)
    · rw [if_neg c2] at hRES
      refine x_iload_n (pc' := 35) C dJ6_numberOfTrailingZeros_0f7a4_34 rfl rfl rfl ?_
      refine x_sipush (v := 256) (pc' := 38) C dJ6_numberOfTrailingZeros_0f7a4_35 rfl (by decide) ?_
      refine x_icmp_le (tgt := 49) (pc' := 41) C dJ6_numberOfTrailingZeros_0f7a4_38 (by decide) rfl (fun c3 => ?_) (fun c3 => ?_)
      · rw [if_neg c3] at hRES
        refine x_iload_n (pc' := 50) C dJ6_numberOfTrailingZeros_0f7a4_49 rfl rfl rfl ?_
        refine x_bipush (v := 16) (pc' := 52) C dJ6_numberOfTrailingZeros_0f7a4_50 rfl (by decide) ?_
        refine x_icmp_le (tgt := 62) (pc' := 55) C dJ6_numberOfTrailingZeros_0f7a4_52 (by decide) rfl (fun c4 => ?_) (fun c4 => ?_)
        · rw [if_neg c4] at hRES
          refine x_iload_n (pc' := 63) C dJ6_numberOfTrailingZeros_0f7a4_62 rfl rfl rfl ?_
          refine x_iconst (v := 4) (pc' := 64) C dJ6_numberOfTrailingZeros_0f7a4_63 rfl (by decide) ?_
          refine x_icmp_le (tgt := 74) (pc' := 67) C dJ6_numberOfTrailingZeros_0f7a4_64 (by decide) rfl (fun c5 => ?_) (fun c5 => ?_)
          · rw [if_neg c5] at hRES
            refine x_iload_n (pc' := 75) C dJ6_numberOfTrailingZeros_0f7a4_74 rfl rfl rfl ?_
            refine x_iload_n (pc' := 76) C dJ6_numberOfTrailingZeros_0f7a4_75 rfl rfl rfl ?_
            refine x_iconst (v := 1) (pc' := 77) C dJ6_numberOfTrailingZeros_0f7a4_76 rfl (by decide) ?_
            refine x_iushr (pc' := 78) (v := (ushr ((a1 ^^^ (-1)) &&& (a1 - 1)) 1)) C dJ6_numberOfTrailingZeros_0f7a4_77 rfl rfl ?_
            refine x_iadd (pc' := 79) (v := (1 + (ushr ((a1 ^^^ (-1)) &&& (a1 - 1)) 1))) C dJ6_numberOfTrailingZeros_0f7a4_78 rfl rfl ?_
            exact x_iret C (Nat.zero_le _) (Nat.zero_le _) dJ6_numberOfTrailingZeros_0f7a4_79 (by rw [hRES])
          · rw [if_pos c5] at hRES
            refine x_iinc (pc' := 70) (v := 3) (L' := [some (.int ((a1 ^^^ (-1)) &&& (a1 - 1))), some (.int 3)]) C dJ6_numberOfTrailingZeros_0f7a4_67 rfl rfl (by decide) (Nat.le_of_ble_eq_true rfl) rfl ?_
            refine x_iload_n (pc' := 71) C dJ6_numberOfTrailingZeros_0f7a4_70 rfl rfl rfl ?_
            refine x_iconst (v := 2) (pc' := 72) C dJ6_numberOfTrailingZeros_0f7a4_71 rfl (by decide) ?_
            refine x_iushr (pc' := 73) (v := (ushr ((a1 ^^^ (-1)) &&& (a1 - 1)) 2)) C dJ6_numberOfTrailingZeros_0f7a4_72 rfl rfl ?_
            refine x_istore_n (pc' := 74) (L' := [some (.int (ushr ((a1 ^^^ (-1)) &&& (a1 - 1)) 2)), some (.int 3)]) C dJ6_numberOfTrailingZeros_0f7a4_73 rfl rfl (Nat.le_of_ble_eq_true rfl) rfl ?_
            refine x_iload_n (pc' := 75) C dJ6_numberOfTrailingZeros_0f7a4_74 rfl rfl rfl ?_
            refine x_iload_n (pc' := 76) C dJ6_numberOfTrailingZeros_0f7a4_75 rfl rfl rfl ?_
            refine x_iconst (v := 1) (pc' := 77) C dJ6_numberOfTrailingZeros_0f7a4_76 rfl (by decide) ?_
            refine x_iushr (pc' := 78) (v := (ushr (ushr ((a1 ^^^ (-1)) &&& (a1 - 1)) 2) 1)) C dJ6_numberOfTrailingZeros_0f7a4_77 rfl rfl ?_
            refine x_iadd (pc' := 79) (v := (3 + (ushr (ushr ((a1 ^^^ (-1)) &&& (a1 - 1)) 2) 1))) C dJ6_numberOfTrailingZeros_0f7a4_78 rfl rfl ?_
            exact x_iret C (Nat.zero_le _) (Nat.zero_le _) dJ6_numberOfTrailingZeros_0f7a4_79 (by rw [hRES])
        · rw [if_pos c4] at hRES
          refine x_iinc (pc' := 58) (v := 5) (L' := [some (.int ((a1 ^^^ (-1)) &&& (a1 - 1))), some (.int 5)]) C dJ6_numberOfTrailingZeros_0f7a4_55 rfl rfl (by decide) (Nat.le_of_ble_eq_true rfl) rfl ?_
          refine x_iload_n (pc' := 59) C dJ6_numberOfTrailingZeros_0f7a4_58 rfl rfl rfl ?_
          refine x_iconst (v := 4) (pc' := 60) C dJ6_numberOfTrailingZeros_0f7a4_59 rfl (by decide) ?_
          refine x_iushr (pc' := 61) (v := (ushr ((a1 ^^^ (-1)) &&& (a1 - 1)) 4)) C dJ6_numberOfTrailingZeros_0f7a4_60 rfl rfl ?_
          refine x_istore_n (pc' := 62) (L' := [some (.int (ushr ((a1 ^^^ (-1)) &&& (a1 - 1)) 4)), some (.int 5)]) C dJ6_numberOfTrailingZeros_0f7a4_61 rfl rfl (Nat.le_of_ble_eq_true rfl) rfl ?_
          refine x_iload_n (pc' := 63) C dJ6_numberOfTrailingZeros_0f7a4_62 rfl rfl rfl ?_
          refine x_iconst (v := 4) (pc' := 64) C dJ6_numberOfTrailingZeros_0f7a4_63 rfl (by decide) ?_
          refine x_icmp_le (tgt := 74) (pc' := 67) C dJ6_numberOfTrailingZeros_0f7a4_64 (by decide) rfl (fun c6 => ?_) (fun c6 => ?_)
          · rw [if_neg c6] at hRES
            refine x_iload_n (pc' := 75) C dJ6_numberOfTrailingZeros_0f7a4_74 rfl rfl rfl ?_
            refine x_iload_n (pc' := 76) C dJ6_numberOfTrailingZeros_0f7a4_75 rfl rfl rfl ?_
            refine x_iconst (v := 1) (pc' := 77) C dJ6_numberOfTrailingZeros_0f7a4_76 rfl (by decide) ?_
            refine x_iushr (pc' := 78) (v := (ushr (ushr ((a1 ^^^ (-1)) &&& (a1 - 1)) 4) 1)) C dJ6_numberOfTrailingZeros_0f7a4_77 rfl rfl ?_
            refine x_iadd (pc' := 79) (v := (5 + (ushr (ushr ((a1 ^^^ (-1)) &&& (a1 - 1)) 4) 1))) C dJ6_numberOfTrailingZeros_0f7a4_78 rfl rfl ?_
            exact x_iret C (Nat.zero_le _) (Nat.zero_le _) dJ6_numberOfTrailingZeros_0f7a4_79 (by rw [hRES])
          · rw [if_pos c6] at hRES
            refine x_iinc (pc' := 70) (v := 7) (L' := [some (.int (ushr ((a1 ^^^ (-1)) &&& (a1 - 1)) 4)), some (.int 7)]) C dJ6_numberOfTrailingZeros_0f7a4_67 rfl rfl (by decide) (Nat.le_of_ble_eq_true rfl) rfl ?_
            refine x_iload_n (pc' := 71) C dJ6_numberOfTrailingZeros_0f7a4_70 rfl rfl rfl ?_
            refine x_iconst (v := 2) (pc' := 72) C dJ6_numberOfTrailingZeros_0f7a4_71 rfl (by decide) ?_
            refine x_iushr (pc' := 73) (v := (ushr (ushr ((a1 ^^^ (-1)) &&& (a1 - 1)) 4) 2)) C dJ6_numberOfTrailingZeros_0f7a4_72 rfl rfl ?_
            refine x_istore_n (pc' := 74) (L' := [some (.int (ushr (ushr ((a1 ^^^ (-1)) &&& (a1 - 1)) 4) 2)), some (.int 7)]) C dJ6_numberOfTrailingZeros_0f7a4_73 rfl rfl (Nat.le_of_ble_eq_true rfl) rfl ?_
            refine x_iload_n (pc' := 75) C dJ6_numberOfTrailingZeros_0f7a4_74 rfl rfl rfl ?_
            refine x_iload_n (pc' := 76) C dJ6_numberOfTrailingZeros_0f7a4_75 rfl rfl rfl ?_
            refine x_iconst (v := 1) (pc' := 77) C dJ6_numberOfTrailingZeros_0f7a4_76 rfl (by decide) ?_
            refine x_iushr (pc' := 78) (v := (ushr (ushr (ushr ((a1 ^^^ (-1)) &&& (a1 - 1)) 4) 2) 1)) C dJ6_numberOfTrailingZeros_0f7a4_77 rfl rfl ?_
            refine x_iadd (pc' := 79) (v := (7 + (ushr (ushr (ushr ((a1 ^^^ (-1)) &&& (a1 - 1)) 4) 2) 1))) C dJ6_numberOfTrailingZeros_0f7a4_78 rfl rfl ?_
            exact x_iret C (Nat.zero_le _) (Nat.zero_le _) dJ6_numberOfTrailingZeros_0f7a4_79 (by rw [hRES])
      · rw [if_pos c3] at hRES
        refine x_iinc (pc' := 44) (v := 9) (L' := [some (.int ((a1 ^^^ (-1)) &&& (a1 - 1))), some (.int 9)]) C dJ6_numberOfTrailingZeros_0f7a4_41 rfl rfl (by decide) (Nat.le_of_ble_eq_true rfl) rfl ?_
        refine x_iload_n (pc' := 45) C dJ6_numberOfTrailingZeros_0f7a4_44 rfl rfl rfl ?_
        refine x_bipush (v := 8) (pc' := 47) C dJ6_numberOfTrailingZeros_0f7a4_45 rfl (by decide) ?_
        refine x_iushr (pc' := 48) (v := (ushr ((a1 ^^^ (-1)) &&& (a1 - 1)) 8)) C dJ6_numberOfTrailingZeros_0f7a4_47 rfl rfl ?_
        refine x_istore_n (pc' := 49) (L' := [some (.int (ushr ((a1 ^^^ (-1)) &&& (a1 - 1)) 8)), some (.int 9)]) C dJ6_numberOfTrailingZeros_0f7a4_48 rfl rfl (Nat.le_of_ble_eq_true rfl) rfl ?_
        refine x_iload_n (pc' := 50) C dJ6_numberOfTrailingZeros_0f7a4_49 rfl rfl rfl ?_
        refine x_bipush (v := 16) (pc' := 52) C dJ6_numberOfTrailingZeros_0f7a4_50 rfl (by decide) ?_
        refine x_icmp_le (tgt := 62) (pc' := 55) C dJ6_numberOfTrailingZeros_0f7a4_52 (by decide) rfl (fun c7 => ?_) (fun c7 => ?_)
        · rw [if_neg c7] at hRES
          refine x_iload_n (pc' := 63) C dJ6_numberOfTrailingZeros_0f7a4_62 rfl rfl rfl ?_
          refine x_iconst (v := 4) (pc' := 64) C dJ6_numberOfTrailingZeros_0f7a4_63 rfl (by decide) ?_
          refine x_icmp_le (tgt := 74) (pc' := 67) C dJ6_numberOfTrailingZeros_0f7a4_64 (by decide) rfl (fun c8 => ?_) (fun c8 => ?_)
          · rw [if_neg c8] at hRES
            refine x_iload_n (pc' := 75) C dJ6_numberOfTrailingZeros_0f7a4_74 rfl rfl rfl ?_
            refine x_iload_n (pc' := 76) C dJ6_numberOfTrailingZeros_0f7a4_75 rfl rfl rfl ?_
            refine x_iconst (v := 1) (pc' := 77) C dJ6_numberOfTrailingZeros_0f7a4_76 rfl (by decide) ?_
            refine x_iushr (pc' := 78) (v := (ushr (ushr ((a1 ^^^ (-1)) &&& (a1 - 1)) 8) 1)) C dJ6_numberOfTrailingZeros_0f7a4_77 rfl rfl ?_
            refine x_iadd (pc' := 79) (v := (9 + (ushr (ushr ((a1 ^^^ (-1)) &&& (a1 - 1)) 8) 1))) C dJ6_numberOfTrailingZeros_0f7a4_78 rfl rfl ?_
            exact x_iret C (Nat.zero_le _) (Nat.zero_le _) dJ6_numberOfTrailingZeros_0f7a4_79 (by rw [hRES])
          · rw [if_pos c8] at hRES
            refine x_iinc (pc' := 70) (v := 11) (L' := [some (.int (ushr ((a1 ^^^ (-1)) &&& (a1 - 1)) 8)), some (.int 11)]) C dJ6_numberOfTrailingZeros_0f7a4_67 rfl rfl (by decide) (Nat.le_of_ble_eq_true rfl) rfl ?_
            refine x_iload_n (pc' := 71) C dJ6_numberOfTrailingZeros_0f7a4_70 rfl rfl rfl ?_
            refine x_iconst (v := 2) (pc' := 72) C dJ6_numberOfTrailingZeros_0f7a4_71 rfl (by decide) ?_
            refine x_iushr (pc' := 73) (v := (ushr (ushr ((a1 ^^^ (-1)) &&& (a1 - 1)) 8) 2)) C dJ6_numberOfTrailingZeros_0f7a4_72 rfl rfl ?_
            refine x_istore_n (pc' := 74) (L' := [some (.int (ushr (ushr ((a1 ^^^ (-1)) &&& (a1 - 1)) 8) 2)), some (.int 11)]) C dJ6_numberOfTrailingZeros_0f7a4_73 rfl rfl (Nat.le_of_ble_eq_true rfl) rfl ?_
            refine x_iload_n (pc' := 75) C dJ6_numberOfTrailingZeros_0f7a4_74 rfl rfl rfl ?_
            refine x_iload_n (pc' := 76) C dJ6_numberOfTrailingZeros_0f7a4_75 rfl rfl rfl ?_
            refine x_iconst (v := 1) (pc' := 77) C dJ6_numberOfTrailingZeros_0f7a4_76 rfl (by decide) ?_
            refine x_iushr (pc' := 78) (v := (ushr (ushr (ushr ((a1 ^^^ (-1)) &&& (a1 - 1)) 8) 2) 1)) C dJ6_numberOfTrailingZeros_0f7a4_77 rfl rfl ?_
            refine x_iadd (pc' := 79) (v := (11 + (ushr (ushr (ushr ((a1 ^^^ (-1)) &&& (a1 - 1)) 8) 2) 1))) C dJ6_numberOfTrailingZeros_0f7a4_78 rfl rfl ?_
            exact x_iret C (Nat.zero_le _) (Nat.zero_le _) dJ6_numberOfTrailingZeros_0f7a4_79 (by rw [hRES])
        · rw [if_pos c7] at hRES
          refine x_iinc (pc' := 58) (v := 13) (L' := [some (.int (ushr ((a1 ^^^ (-1)) &&& (a1 - 1)) 8)), some (.int 13)]) C dJ6_numberOfTrailingZeros_0f7a4_55 rfl rfl (by decide) (Nat.le_of_ble_eq_true rfl) rfl ?_
          refine x_iload_n (pc' := 59) C dJ6_numberOfTrailingZeros_0f7a4_58 rfl rfl rfl ?_
          refine x_iconst (v := 4) (pc' := 60) C dJ6_numberOfTrailingZeros_0f7a4_59 rfl (by decide) ?_
          refine x_iushr (pc' := 61) (v := (ushr (ushr ((a1 ^^^ (-1)) &&& (a1 - 1)) 8) 4)) C dJ6_numberOfTrailingZeros_0f7a4_60 rfl rfl ?_
          refine x_istore_n (pc' := 62) (L' := [some (.int (ushr (ushr ((a1 ^^^ (-1)) &&& (a1 - 1)) 8) 4)), some (.int 13)]) C dJ6_numberOfTrailingZeros_0f7a4_61 rfl rfl (Nat.le_of_ble_eq_true rfl) rfl ?_
          refine x_iload_n (pc' := 63) C dJ6_numberOfTrailingZeros_0f7a4_62 rfl rfl rfl ?_
          refine x_iconst (v := 4) (pc' := 64) C dJ6_numberOfTrailingZeros_0f7a4_63 rfl (by decide) ?_
          refine x_icmp_le (tgt := 74) (pc' := 67) C dJ6_numberOfTrailingZeros_0f7a4_64 (by decide) rfl (fun c9 => ?_) (fun c9 => ?_)
          · rw [if_neg c9] at hRES
            refine x_iload_n (pc' := 75) C dJ6_numberOfTrailingZeros_0f7a4_74 rfl rfl rfl ?_
            refine x_iload_n (pc' := 76) C dJ6_numberOfTrailingZeros_0f7a4_75 rfl rfl rfl ?_
            refine x_iconst (v := 1) (pc' := 77) C dJ6_numberOfTrailingZeros_0f7a4_76 rfl (by decide) ?_
            refine x_iushr (pc' := 78) (v := (ushr (ushr (ushr ((a1 ^^^ (-1)) &&& (a1 - 1)) 8) 4) 1)) C dJ6_numberOfTrailingZeros_0f7a4_77 rfl rfl ?_
            refine x_iadd (pc' := 79) (v := (13 + (ushr (ushr (ushr ((a1 ^^^ (-1)) &&& (a1 - 1)) 8) 4) 1))) C dJ6_numberOfTrailingZeros_0f7a4_78 rfl rfl ?_
            exact x_iret C (Nat.zero_le _) (Nat.zero_le _) dJ6_numberOfTrailingZeros_0f7a4_79 (by rw [hRES])
          · rw [if_pos c9] at hRES
            refine x_iinc (pc' := 70) (v := 15) (L' := [some (.int (ushr (ushr ((a1 ^^^ (-1)) &&& (a1 - 1)) 8) 4)), some (.int 15)]) C dJ6_numberOfTrailingZeros_0f7a4_67 rfl rfl (by decide) (Nat.le_of_ble_eq_true rfl) rfl ?_
            refine x_iload_n (pc' := 71) C dJ6_numberOfTrailingZeros_0f7a4_70 rfl rfl rfl ?_
            refine x_iconst (v := 2) (pc' := 72) C dJ6_numberOfTrailingZeros_0f7a4_71 rfl (by decide) ?_
            refine x_iushr (pc' := 73) (v := (ushr (ushr (ushr ((a1 ^^^ (-1)) &&& (a1 - 1)) 8) 4) 2)) C dJ6_numberOfTrailingZeros_0f7a4_72 rfl rfl ?_
            refine x_istore_n (pc' := 74) (L' := [some (.int (ushr (ushr (ushr ((a1 ^^^ (-1)) &&& (a1 - 1)) 8) 4) 2)), some (.int 15)]) C dJ6_numberOfTrailingZeros_0f7a4_73 rfl rfl (Nat.le_of_ble_eq_true rfl) rfl ?_
            refine x_iload_n (pc' := 75) C dJ6_numberOfTrailingZeros_0f7a4_74 rfl rfl rfl ?_
            refine x_iload_n (pc' := 76) C dJ6_numberOfTrailingZeros_0f7a4_75 rfl rfl rfl ?_
            refine x_iconst (v := 1) (pc' := 77) C dJ6_numberOfTrailingZeros_0f7a4_76 rfl (by decide) ?_
            refine x_iushr (pc' := 78) (v := (ushr (ushr (ushr (ushr ((a1 ^^^ (-1)) &&& (a1 - 1)) 8) 4) 2) 1)) C dJ6_numberOfTrailingZeros_0f7a4_77 rfl rfl ?_
            refine x_iadd (pc' := 79) (v := (15 + (ushr (ushr (ushr (ushr ((a1 ^^^ (-1)) &&& (a1 - 1)) 8) 4) 2) 1))) C dJ6_numberOfTrailingZeros_0f7a4_78 rfl rfl ?_
            exact x_iret C (Nat.zero_le _) (Nat.zero_le _) dJ6_numberOfTrailingZeros_0f7a4_79 (by rw [hRES])
    · rw [if_pos c2] at hRES
      refine x_iinc (pc' := 29) (v := 17) (L' := [some (.int ((a1 ^^^ (-1)) &&& (a1 - 1))), some (.int 17)]) C dJ6_numberOfTrailingZeros_0f7a4_26 rfl rfl (by decide) (Nat.le_of_ble_eq_true rfl) rfl ?_
      refine x_iload_n (pc' := 30) C dJ6_numberOfTrailingZeros_0f7a4_29 rfl rfl rfl ?_
      refine x_bipush (v := 16) (pc' := 32) C dJ6_numberOfTrailingZeros_0f7a4_30 rfl (by decide) ?_
      refine x_iushr (pc' := 33) (v := (ushr ((a1 ^^^ (-1)) &&& (a1 - 1)) 16)) C dJ6_numberOfTrailingZeros_0f7a4_32 rfl rfl ?_
      refine x_istore_n (pc' := 34) (L' := [some (.int (ushr ((a1 ^^^ (-1)) &&& (a1 - 1)) 16)), some (.int 17)]) C dJ6_numberOfTrailingZeros_0f7a4_33 rfl rfl (Nat.le_of_ble_eq_true rfl) rfl ?_
      refine x_iload_n (pc' := 35) C dJ6_numberOfTrailingZeros_0f7a4_34 rfl rfl rfl ?_
      refine x_sipush (v := 256) (pc' := 38) C dJ6_numberOfTrailingZeros_0f7a4_35 rfl (by decide) ?_
      refine x_icmp_le (tgt := 49) (pc' := 41) C dJ6_numberOfTrailingZeros_0f7a4_38 (by decide) rfl (fun c10 => ?_) (fun c10 => ?_)
      · rw [if_neg c10] at hRES
        refine x_iload_n (pc' := 50) C dJ6_numberOfTrailingZeros_0f7a4_49 rfl rfl rfl ?_
        refine x_bipush (v := 16) (pc' := 52) C dJ6_numberOfTrailingZeros_0f7a4_50 rfl (by decide) ?_
        refine x_icmp_le (tgt := 62) (pc' := 55) C dJ6_numberOfTrailingZeros_0f7a4_52 (by decide) rfl (fun c11 => ?_) (fun c11 => ?_)
        · rw [if_neg c11] at hRES
          refine x_iload_n (pc' := 63) C dJ6_numberOfTrailingZeros_0f7a4_62 rfl rfl rfl ?_
          refine x_iconst (v := 4) (pc' := 64) C dJ6_numberOfTrailingZeros_0f7a4_63 rfl (by decide) ?_
          refine x_icmp_le (tgt := 74) (pc' := 67) C dJ6_numberOfTrailingZeros_0f7a4_64 (by decide) rfl (fun c12 => ?_) (fun c12 => ?_)
          · rw [if_neg c12] at hRES
            refine x_iload_n (pc' := 75) C dJ6_numberOfTrailingZeros_0f7a4_74 rfl rfl rfl ?_
            refine x_iload_n (pc' := 76) C dJ6_numberOfTrailingZeros_0f7a4_75 rfl rfl rfl ?_
            refine x_iconst (v := 1) (pc' := 77) C dJ6_numberOfTrailingZeros_0f7a4_76 rfl (by decide) ?_
            refine x_iushr (pc' := 78) (v := (ushr (ushr ((a1 ^^^ (-1)) &&& (a1 - 1)) 16) 1)) C dJ6_numberOfTrailingZeros_0f7a4_77 rfl rfl ?_
            refine x_iadd (pc' := 79) (v := (17 + (ushr (ushr ((a1 ^^^ (-1)) &&& (a1 - 1)) 16) 1))) C dJ6_numberOfTrailingZeros_0f7a4_78 rfl rfl ?_
            exact x_iret C (Nat.zero_le _) (Nat.zero_le _) dJ6_numberOfTrailingZeros_0f7a4_79 (by rw [hRES])
          · rw [if_pos c12] at hRES
            refine x_iinc (pc' := 70) (v := 19) (L' := [some (.int (ushr ((a1 ^^^ (-1)) &&& (a1 - 1)) 16)), some (.int 19)]) C dJ6_numberOfTrailingZeros_0f7a4_67 rfl rfl (by decide) (Nat.le_of_ble_eq_true rfl) rfl ?_
            refine x_iload_n (pc' := 71) C dJ6_numberOfTrailingZeros_0f7a4_70 rfl rfl rfl ?_
            refine x_iconst (v := 2) (pc' := 72) C dJ6_numberOfTrailingZeros_0f7a4_71 rfl (by decide) ?_
            refine x_iushr (pc' := 73) (v := (ushr (ushr ((a1 ^^^ (-1)) &&& (a1 - 1)) 16) 2)) C dJ6_numberOfTrailingZeros_0f7a4_72 rfl rfl ?_
            refine x_istore_n (pc' := 74) (L' := [some (.int (ushr (ushr ((a1 ^^^ (-1)) &&& (a1 - 1)) 16) 2)), some (.int 19)]) C dJ6_numberOfTrailingZeros_0f7a4_73 rfl rfl (Nat.le_of_ble_eq_true rfl) rfl ?_
            refine x_iload_n (pc' := 75) C dJ6_numberOfTrailingZeros_0f7a4_74 rfl rfl rfl ?_
            refine x_iload_n (pc' := 76) C dJ6_numberOfTrailingZeros_0f7a4_75 rfl rfl rfl ?_
            refine x_iconst (v := 1) (pc' := 77) C dJ6_numberOfTrailingZeros_0f7a4_76 rfl (by decide) ?_
            refine x_iushr (pc' := 78) (v := (ushr (ushr (ushr ((a1 ^^^ (-1)) &&& (a1 - 1)) 16) 2) 1)) C dJ6_numberOfTrailingZeros_0f7a4_77 rfl rfl ?_
            refine x_iadd (pc' := 79) (v := (19 + (ushr (ushr (ushr ((a1 ^^^ (-1)) &&& (a1 - 1)) 16) 2) 1))) C dJ6_numberOfTrailingZeros_0f7a4_78 rfl rfl ?_
            exact x_iret C (Nat.zero_le _) (Nat.zero_le _) dJ6_numberOfTrailingZeros_0f7a4_79 (by rw [hRES])
        · rw [if_pos c11] at hRES
          refine x_iinc (pc' := 58) (v := 21) (L' := [some (.int (ushr ((a1 ^^^ (-1)) &&& (a1 - 1)) 16)), some (.int 21)]) C dJ6_numberOfTrailingZeros_0f7a4_55 rfl rfl (by decide) (Nat.le_of_ble_eq_true rfl) rfl ?_
          refine x_iload_n (pc' := 59) C dJ6_numberOfTrailingZeros_0f7a4_58 rfl rfl rfl ?_
          refine x_iconst (v := 4) (pc' := 60) C dJ6_numberOfTrailingZeros_0f7a4_59 rfl (by decide) ?_
          refine x_iushr (pc' := 61) (v := (ushr (ushr ((a1 ^^^ (-1)) &&& (a1 - 1)) 16) 4)) C dJ6_numberOfTrailingZeros_0f7a4_60 rfl rfl ?_
          refine x_istore_n (pc' := 62) (L' := [some (.int (ushr (ushr ((a1 ^^^ (-1)) &&& (a1 - 1)) 16) 4)), some (.int 21)]) C dJ6_numberOfTrailingZeros_0f7a4_61 rfl rfl (Nat.le_of_ble_eq_true rfl) rfl ?_
          refine x_iload_n (pc' := 63) C dJ6_numberOfTrailingZeros_0f7a4_62 rfl rfl rfl ?_
          refine x_iconst (v := 4) (pc' := 64) C dJ6_numberOfTrailingZeros_0f7a4_63 rfl (by decide) ?_
          refine x_icmp_le (tgt := 74) (pc' := 67) C dJ6_numberOfTrailingZeros_0f7a4_64 (by decide) rfl (fun c13 => ?_) (fun c13 => ?_)
          · rw [if_neg c13] at hRES
            refine x_iload_n (pc' := 75) C dJ6_numberOfTrailingZeros_0f7a4_74 rfl rfl rfl ?_
            refine x_iload_n (pc' := 76) C dJ6_numberOfTrailingZeros_0f7a4_75 rfl rfl rfl ?_
            refine x_iconst (v := 1) (pc' := 77) C dJ6_numberOfTrailingZeros_0f7a4_76 rfl (by decide) ?_
            refine x_iushr (pc' := 78) (v := (ushr (ushr (ushr ((a1 ^^^ (-1)) &&& (a1 - 1)) 16) 4) 1)) C dJ6_numberOfTrailingZeros_0f7a4_77 rfl rfl ?_
            refine x_iadd (pc' := 79) (v := (21 + (ushr (ushr (ushr ((a1 ^^^ (-1)) &&& (a1 - 1)) 16) 4) 1))) C dJ6_numberOfTrailingZeros_0f7a4_78 rfl rfl ?_
            exact x_iret C (Nat.zero_le _) (Nat.zero_le _) dJ6_numberOfTrailingZeros_0f7a4_79 (by rw [hRES])
          · rw [if_pos c13] at hRES
            refine x_iinc (pc' := 70) (v := 23) (L' := [some (.int (ushr (ushr ((a1 ^^^ (-1)) &&& (a1 - 1)) 16) 4)), some (.int 23)]) C dJ6_numberOfTrailingZeros_0f7a4_67 rfl rfl (by decide) (Nat.le_of_ble_eq_true rfl) rfl ?_
            refine x_iload_n (pc' := 71) C dJ6_numberOfTrailingZeros_0f7a4_70 rfl rfl rfl ?_
            refine x_iconst (v := 2) (pc' := 72) C dJ6_numberOfTrailingZeros_0f7a4_71 rfl (by decide) ?_
            refine x_iushr (pc' := 73) (v := (ushr (ushr (ushr ((a1 ^^^ (-1)) &&& (a1 - 1)) 16) 4) 2)) C dJ6_numberOfTrailingZeros_0f7a4_72 rfl rfl ?_
            refine x_istore_n (pc' := 74) (L' := [some (.int (ushr (ushr (ushr ((a1 ^^^ (-1)) &&& (a1 - 1)) 16) 4) 2)), some (.int 23)]) C dJ6_numberOfTrailingZeros_0f7a4_73 rfl rfl (Nat.le_of_ble_eq_true rfl) rfl ?_
            refine x_iload_n (pc' := 75) C dJ6_numberOfTrailingZeros_0f7a4_74 rfl rfl rfl ?_
            refine x_iload_n (pc' := 76) C dJ6_numberOfTrailingZeros_0f7a4_75 rfl rfl rfl ?_
            refine x_iconst (v := 1) (pc' := 77) C dJ6_numberOfTrailingZeros_0f7a4_76 rfl (by decide) ?_
            refine x_iushr (pc' := 78) (v := (ushr (ushr (ushr (ushr ((a1 ^^^ (-1)) &&& (a1 - 1)) 16) 4) 2) 1)) C dJ6_numberOfTrailingZeros_0f7a4_77 rfl rfl ?_
            refine x_iadd (pc' := 79) (v := (23 + (ushr (ushr (ushr (ushr ((a1 ^^^ (-1)) &&& (a1 - 1)) 16) 4) 2) 1))) C dJ6_numberOfTrailingZeros_0f7a4_78 rfl rfl ?_
            exact x_iret C (Nat.zero_le _) (Nat.zero_le _) dJ6_numberOfTrailingZeros_0f7a4_79 (by rw [hRES])
      · rw [if_pos c10] at hRES
        refine x_iinc (pc' := 44) (v := 25) (L' := [some (.int (ushr ((a1 ^^^ (-1)) &&& (a1 - 1)) 16)), some (.int 25)]) C dJ6_numberOfTrailingZeros_0f7a4_41 rfl rfl (by decide) (Nat.le_of_ble_eq_true rfl) rfl ?_
        refine x_iload_n (pc' := 45) C dJ6_numberOfTrailingZeros_0f7a4_44 rfl rfl rfl ?_
        refine x_bipush (v := 8) (pc' := 47) C dJ6_numberOfTrailingZeros_0f7a4_45 rfl (by decide) ?_
        refine x_iushr (pc' := 48) (v := (ushr (ushr ((a1 ^^^ (-1)) &&& (a1 - 1)) 16) 8)) C dJ6_numberOfTrailingZeros_0f7a4_47 rfl rfl ?_
        refine x_istore_n (pc' := 49) (L' := [some (.int (ushr (ushr ((a1 ^^^ (-1)) &&& (a1 - 1)) 16) 8)), some (.int 25)]) C dJ6_numberOfTrailingZeros_0f7a4_48 rfl rfl (Nat.le_of_ble_eq_true rfl) rfl ?_
        refine x_iload_n (pc' := 50) C dJ6_numberOfTrailingZeros_0f7a4_49 rfl rfl rfl ?_
        refine x_bipush (v := 16) (pc' := 52) C dJ6_numberOfTrailingZeros_0f7a4_50 rfl (by decide) ?_
        refine x_icmp_le (tgt := 62) (pc' := 55) C dJ6_numberOfTrailingZeros_0f7a4_52 (by decide) rfl (fun c14 => ?_) (fun c14 => ?_)
        · rw [if_neg c14] at hRES
          refine x_iload_n (pc' := 63) C dJ6_numberOfTrailingZeros_0f7a4_62 rfl rfl rfl ?_
          refine x_iconst (v := 4) (pc' := 64) C dJ6_numberOfTrailingZeros_0f7a4_63 rfl (by decide) ?_
          refine x_icmp_le (tgt := 74) (pc' := 67) C dJ6_numberOfTrailingZeros_0f7a4_64 (by decide) rfl (fun c15 => ?_) (fun c15 => ?_)
          · rw [if_neg c15] at hRES
            refine x_iload_n (pc' := 75) C dJ6_numberOfTrailingZeros_0f7a4_74 rfl rfl rfl ?_
            refine x_iload_n (pc' := 76) C dJ6_numberOfTrailingZeros_0f7a4_75 rfl rfl rfl ?_
            refine x_iconst (v := 1) (pc' := 77) C dJ6_numberOfTrailingZeros_0f7a4_76 rfl (by decide) ?_
            refine x_iushr (pc' := 78) (v := (ushr (ushr (ushr ((a1 ^^^ (-1)) &&& (a1 - 1)) 16) 8) 1)) C dJ6_numberOfTrailingZeros_0f7a4_77 rfl rfl ?_
            refine x_iadd (pc' := 79) (v := (25 + (ushr (ushr (ushr ((a1 ^^^ (-1)) &&& (a1 - 1)) 16) 8) 1))) C dJ6_numberOfTrailingZeros_0f7a4_78 rfl rfl ?_
            exact x_iret C (Nat.zero_le _) (Nat.zero_le _) dJ6_numberOfTrailingZeros_0f7a4_79 (by rw [hRES])
          · rw [if_pos c15] at hRES
            refine x_iinc (pc' := 70) (v := 27) (L' := [some (.int (ushr (ushr ((a1 ^^^ (-1)) &&& (a1 - 1)) 16) 8)), some (.int 27)]) C dJ6_numberOfTrailingZeros_0f7a4_67 rfl rfl (by decide) (Nat.le_of_ble_eq_true rfl) rfl ?_
            refine x_iload_n (pc' := 71) C dJ6_numberOfTrailingZeros_0f7a4_70 rfl rfl rfl ?_
            refine x_iconst (v := 2) (pc' := 72) C dJ6_numberOfTrailingZeros_0f7a4_71 rfl (by decide) ?_
            refine x_iushr (pc' := 73) (v := (ushr (ushr (ushr ((a1 ^^^ (-1)) &&& (a1 - 1)) 16) 8) 2)) C dJ6_numberOfTrailingZeros_0f7a4_72 rfl rfl ?_
            refine x_istore_n (pc' := 74) (L' := [some (.int (ushr (ushr (ushr ((a1 ^^^ (-1)) &&& (a1 - 1)) 16) 8) 2)), some (.int 27)]) C dJ6_numberOfTrailingZeros_0f7a4_73 rfl rfl (Nat.le_of_ble_eq_true rfl) rfl ?_
            refine x_iload_n (pc' := 75) C dJ6_numberOfTrailingZeros_0f7a4_74 rfl rfl rfl ?_
            refine x_iload_n (pc' := 76) C dJ6_numberOfTrailingZeros_0f7a4_75 rfl rfl rfl ?_
            refine x_iconst (v := 1) (pc' := 77) C dJ6_numberOfTrailingZeros_0f7a4_76 rfl (by decide) ?_
            refine x_iushr (pc' := 78) (v := (ushr (ushr (ushr (ushr ((a1 ^^^ (-1)) &&& (a1 - 1)) 16) 8) 2) 1)) C dJ6_numberOfTrailingZeros_0f7a4_77 rfl rfl ?_
            refine x_iadd (pc' := 79) (v := (27 + (ushr (ushr (ushr (ushr ((a1 ^^^ (-1)) &&& (a1 - 1)) 16) 8) 2) 1))) C dJ6_numberOfTrailingZeros_0f7a4_78 rfl rfl ?_
            exact x_iret C (Nat.zero_le _) (Nat.zero_le _) dJ6_numberOfTrailingZeros_0f7a4_79 (by rw [hRES])
        · rw [if_pos c14] at hRES
          refine x_iinc (pc' := 58) (v := 29) (L' := [some (.int (ushr (ushr ((a1 ^^^ (-1)) &&& (a1 - 1)) 16) 8)), some (.int 29)]) C dJ6_numberOfTrailingZeros_0f7a4_55 rfl rfl (by decide) (Nat.le_of_ble_eq_true rfl) rfl ?_
          refine x_iload_n (pc' := 59) C dJ6_numberOfTrailingZeros_0f7a4_58 rfl rfl rfl ?_
          refine x_iconst (v := 4) (pc' := 60) C dJ6_numberOfTrailingZeros_0f7a4_59 rfl (by decide) ?_
          refine x_iushr (pc' := 61) (v := (ushr (ushr (ushr ((a1 ^^^ (-1)) &&& (a1 - 1)) 16) 8) 4)) C dJ6_numberOfTrailingZeros_0f7a4_60 rfl rfl ?_
          refine x_istore_n (pc' := 62) (L' := [some (.int (ushr (ushr (ushr ((a1 ^^^ (-1)) &&& (a1 - 1)) 16) 8) 4)), some (.int 29)]) C dJ6_numberOfTrailingZeros_0f7a4_61 rfl rfl (Nat.le_of_ble_eq_true rfl) rfl ?_
          refine x_iload_n (pc' := 63) C dJ6_numberOfTrailingZeros_0f7a4_62 rfl rfl rfl ?_
          refine x_iconst (v := 4) (pc' := 64) C dJ6_numberOfTrailingZeros_0f7a4_63 rfl (by decide) ?_
          refine x_icmp_le (tgt := 74) (pc' := 67) C dJ6_numberOfTrailingZeros_0f7a4_64 (by decide) rfl (fun c16 => ?_) (fun c16 => ?_)
          · rw [if_neg c16] at hRES
            refine x_iload_n (pc' := 75) C dJ6_numberOfTrailingZeros_0f7a4_74 rfl rfl rfl ?_
            refine x_iload_n (pc' := 76) C dJ6_numberOfTrailingZeros_0f7a4_75 rfl rfl rfl ?_
            refine x_iconst (v := 1) (pc' := 77) C dJ6_numberOfTrailingZeros_0f7a4_76 rfl (by decide) ?_
            refine x_iushr (pc' := 78) (v := (ushr (ushr (ushr (ushr ((a1 ^^^ (-1)) &&& (a1 - 1)) 16) 8) 4) 1)) C dJ6_numberOfTrailingZeros_0f7a4_77 rfl rfl ?_
            refine x_iadd (pc' := 79) (v := (29 + (ushr (ushr (ushr (ushr ((a1 ^^^ (-1)) &&& (a1 - 1)) 16) 8) 4) 1))) C dJ6_numberOfTrailingZeros_0f7a4_78 rfl rfl ?_
            exact x_iret C (Nat.zero_le _) (Nat.zero_le _) dJ6_numberOfTrailingZeros_0f7a4_79 (by rw [hRES])
          · rw [if_pos c16] at hRES
            refine x_iinc (pc' := 70) (v := 31) (L' := [some (.int (ushr (ushr (ushr ((a1 ^^^ (-1)) &&& (a1 - 1)) 16) 8) 4)), some (.int 31)]) C dJ6_numberOfTrailingZeros_0f7a4_67 rfl rfl (by decide) (Nat.le_of_ble_eq_true rfl) rfl ?_
            refine x_iload_n (pc' := 71) C dJ6_numberOfTrailingZeros_0f7a4_70 rfl rfl rfl ?_
            refine x_iconst (v := 2) (pc' := 72) C dJ6_numberOfTrailingZeros_0f7a4_71 rfl (by decide) ?_
            refine x_iushr (pc' := 73) (v := (ushr (ushr (ushr (ushr ((a1 ^^^ (-1)) &&& (a1 - 1)) 16) 8) 4) 2)) C dJ6_numberOfTrailingZeros_0f7a4_72 rfl rfl ?_
            refine x_istore_n (pc' := 74) (L' := [some (.int (ushr (ushr (ushr (ushr ((a1 ^^^ (-1)) &&& (a1 - 1)) 16) 8) 4) 2)), some (.int 31)]) C dJ6_numberOfTrailingZeros_0f7a4_73 rfl rfl (Nat.le_of_ble_eq_true rfl) rfl ?_
            refine x_iload_n (pc' := 75) C dJ6_numberOfTrailingZeros_0f7a4_74 rfl rfl rfl ?_
            refine x_iload_n (pc' := 76) C dJ6_numberOfTrailingZeros_0f7a4_75 rfl rfl rfl ?_
            refine x_iconst (v := 1) (pc' := 77) C dJ6_numberOfTrailingZeros_0f7a4_76 rfl (by decide) ?_
            refine x_iushr (pc' := 78) (v := (ushr (ushr (ushr (ushr (ushr ((a1 ^^^ (-1)) &&& (a1 - 1)) 16) 8) 4) 2) 1)) C dJ6_numberOfTrailingZeros_0f7a4_77 rfl rfl ?_
            refine x_iadd (pc' := 79) (v := (31 + (ushr (ushr (ushr (ushr (ushr ((a1 ^^^ (-1)) &&& (a1 - 1)) 16) 8) 4) 2) 1))) C dJ6_numberOfTrailingZeros_0f7a4_78 rfl rfl ?_
            exact x_iret C (Nat.zero_le _) (Nat.zero_le _) dJ6_numberOfTrailingZeros_0f7a4_79 (by rw [hRES])
  · rw [if_neg c1] at hRES
    refine x_iload_n (pc' := 13) C dJ6_numberOfTrailingZeros_0f7a4_12 rfl rfl rfl ?_
    refine x_bipush (v := 32) (pc' := 15) C dJ6_numberOfTrailingZeros_0f7a4_13 rfl (by decide) ?_
    refine x_iand (pc' := 16) (v := (((a1 ^^^ (-1)) &&& (a1 - 1)) &&& 32)) C dJ6_numberOfTrailingZeros_0f7a4_15 rfl rfl ?_
    exact x_iret C (Nat.zero_le _) (Nat.zero_le _) dJ6_numberOfTrailingZeros_0f7a4_16 (by rw [hRES])

def f_X2_rootReached (E : CS) (S : CS) : Int32 := (f_J6_numberOfTrailingZeros_0f7a4 (E.1 0 &&& S.1 2))
set_option maxRecDepth 100000 in
set_option maxHeartbeats 8000000 in
theorem c_X2_rootReached (l : Launch) (g : GT) (h : Nat) (ad : Nat → Nat) (E : CS) (h1 : Nat) (ad1 : Nat → Nat) (S : CS) : CR l yX2_rootReached (.code yX2_rootReached cX2_rootReached 2 (some .int)) 1 g [.ref h, .ref h1] ((wRe g h ad E) ++ (wSt g h1 ad1 S)) (some (.int (f_X2_rootReached E S))) := by
  obtain ⟨RES, hRES⟩ : ∃ z, z = (f_X2_rootReached E S) := ⟨_, rfl⟩
  rw [← hRES]
  unfold f_X2_rootReached at hRES
  refine CRx.of (nL := 2) (ret := (some .int)) (own := RX2) (cc := cX2_rootReached) rfl (by decide) rfl (List.forall_mem_cons.mpr ⟨rfl, (List.forall_mem_cons.mpr ⟨rfl, (fun _ h => absurd h List.not_mem_nil)⟩)⟩) (Nat.le_of_ble_eq_true rfl) ?_
  intro k C hkl hkg
  subst hkl; subst hkg
  refine x_loc2 (L' := [some (.ref h), some (.ref h1)]) rfl ?_
  refine x_aload_n (pc' := 1) C dX2_rootReached_0 rfl rfl rfl ?_
  refine x_get (pc' := 4) (v := .int (E.1 0)) C 0 0 inBX2 rfl rfl (by decide) fl_X2_27 rfl rfl dX2_rootReached_1 rfl ?_
  refine x_aload_n (pc' := 5) C dX2_rootReached_4 rfl rfl rfl ?_
  refine x_get (pc' := 8) (v := .int (S.1 2)) C 4 2 inBX5 rfl rfl (by decide) fl_X2_68 rfl rfl dX2_rootReached_5 rfl ?_
  refine x_iand (pc' := 9) (v := (E.1 0 &&& S.1 2)) C dX2_rootReached_8 rfl rfl ?_
  refine x_RS (st := []) (st2 := [.int (f_J6_numberOfTrailingZeros_0f7a4 (E.1 0 &&& S.1 2))]) (pc' := 12) C (c_J6_numberOfTrailingZeros_0f7a4 (kl k) (kg k) (E.1 0 &&& S.1 2)) cw_X2_71 ok_J6_numberOfTrailingZeros_0f7a4 (by decide) [] rfl rfl rfl (Nat.le_of_ble_eq_true rfl) (Nat.zero_le _) (Nat.zero_le _) rfl dX2_rootReached_9 rfl rfl ?_
  exact x_iret C (Nat.zero_le _) (Nat.zero_le _) dX2_rootReached_12 (by rw [hRES])

def k_X2_towardsStart_33 (x3_33 : Int32) : Int32 := x3_33
def l_X2_towardsStart_5 (E : CS) (a2 : Int32) : Nat → Int32 → Nat → Int32
  | 0, _, _ => 0
  | n5 + 1, x3_5, i4_5 => (if (nI i4_5) < a2 then (if i4_5 < 24 then (l_X2_towardsStart_5 E a2 n5 (f_X3_at 24 (E.2 3) x3_5) (i4_5 + 1)) else (k_X2_towardsStart_33 x3_5)) else (k_X2_towardsStart_33 x3_5))
def f_X2_towardsStart (E : CS) (a1 : Int32) (a2 : Int32) : Int32 := (l_X2_towardsStart_5 E a2 25 a1 0)
set_option maxRecDepth 100000 in
set_option maxHeartbeats 8000000 in
theorem c_X2_towardsStart (l : Launch) (g : GT) (h : Nat) (ad : Nat → Nat) (E : CS) (a1 : Int32) (a2 : Int32) : CR l yX2_towardsStart (.code yX2_towardsStart cX2_towardsStart 5 (some .int)) 1 g [.ref h, .int a1, .int a2] (wRe g h ad E) (some (.int (f_X2_towardsStart E a1 a2))) := by
  obtain ⟨RES, hRES⟩ : ∃ z, z = (f_X2_towardsStart E a1 a2) := ⟨_, rfl⟩
  rw [← hRES]
  unfold f_X2_towardsStart at hRES
  refine CRx.of (nL := 5) (ret := (some .int)) (own := RX2) (cc := cX2_towardsStart) rfl (by decide) rfl (List.forall_mem_cons.mpr ⟨rfl, (List.forall_mem_cons.mpr ⟨rfl, (List.forall_mem_cons.mpr ⟨rfl, (fun _ h => absurd h List.not_mem_nil)⟩)⟩)⟩) (Nat.le_of_ble_eq_true rfl) ?_
  intro k C hkl hkg
  subst hkl; subst hkg
  refine x_loc2 (L' := [some (.ref h), some (.int a1), some (.int a2), none, none]) rfl ?_
  refine x_iload_n (pc' := 1) C dX2_towardsStart_0 rfl rfl rfl ?_
  refine x_istore_n (pc' := 2) (L' := [some (.ref h), some (.int a1), some (.int a2), some (.int a1), none]) C dX2_towardsStart_1 rfl rfl (Nat.le_of_ble_eq_true rfl) rfl ?_
  refine x_iconst (v := 0) (pc' := 3) C dX2_towardsStart_2 rfl (by decide) ?_
  refine x_istore (pc' := 5) (L' := [some (.ref h), some (.int a1), some (.int a2), some (.int a1), some (.int 0)]) C dX2_towardsStart_3 rfl (Nat.le_of_ble_eq_true rfl) rfl ?_
  have cont33 : ∀ (x3_33 : Int32), RES = k_X2_towardsStart_33 x3_33 → X k 0 0 (wRe (kg k) h ad E) 33 [none, none, none, some (.int x3_33), none] [] := by
    intro x3_33 hRES
    unfold k_X2_towardsStart_33 at hRES
    refine x_iload_n (pc' := 34) C dX2_towardsStart_33 rfl rfl rfl ?_
    exact x_iret C (Nat.zero_le _) (Nat.zero_le _) dX2_towardsStart_34 (by rw [hRES])
  have loop5 : ∀ (n5 : Nat) (x3_5 : Int32) (i4_5 : Nat), i4_5 ≤ 24 → 24 < i4_5 + n5 → RES = l_X2_towardsStart_5 E a2 n5 x3_5 i4_5 → X k 0 0 (wRe (kg k) h ad E) 5 [some (.ref h), none, some (.int a2), some (.int x3_5), some (.int (nI i4_5))] [] := by
    intro n5
    induction n5 with
    | zero =>
      intro x3_5 i4_5 hb5 hf5 hRES
      omega
    | succ n5 ih5 =>
      intro x3_5 i4_5 hb5 hf5 hRES
      rw [l_X2_towardsStart_5] at hRES
      refine x_iload (pc' := 7) C dX2_towardsStart_5 rfl rfl ?_
      refine x_iload_n (pc' := 8) C dX2_towardsStart_7 rfl rfl rfl ?_
      refine x_icmp_ge (tgt := 33) (pc' := 11) C dX2_towardsStart_8 (by decide) rfl (fun c1 => ?_) (fun c1 => ?_)
      · rw [if_neg c1] at hRES
        refine x_forget (L' := [none, none, none, some (.int x3_5), none]) [2] rfl rfl ?_
        exact cont33 x3_5 hRES
      · rw [if_pos c1] at hRES
        refine x_iload (pc' := 13) C dX2_towardsStart_11 rfl rfl ?_
        refine x_bipush (v := 24) (pc' := 15) C dX2_towardsStart_13 rfl (by decide) ?_
        refine x_icmpN_ge (tgt := 33) (pc' := 18) C i4_5 24 dX2_towardsStart_15 (by decide) rfl (by omega) (by omega) (fun c2 => ?_) (fun c2 => ?_)
        · rw [if_neg c2] at hRES
          refine x_forget (L' := [none, none, none, some (.int x3_5), none]) [2] rfl rfl ?_
          exact cont33 x3_5 hRES
        · rw [if_pos c2] at hRES
          refine x_aload_n (pc' := 19) C dX2_towardsStart_18 rfl rfl rfl ?_
          refine x_get (pc' := 22) (v := .ref (ad 3)) C 0 3 inBX2 rfl rfl (by decide) fl_X2_18 rfl rfl dX2_towardsStart_19 rfl ?_
          refine x_iload_n (pc' := 23) C dX2_towardsStart_22 rfl rfl rfl ?_
          refine x_RS (st := []) (st2 := [.int (f_X3_at 24 (E.2 3) x3_5)]) (pc' := 26) C (c_X3_at (kl k) (kg k) (ad 3) 24 (E.2 3) x3_5 (by decide)) cw_X2_74 ok_X3_at (by decide) [3] rfl rfl rfl (Nat.le_of_ble_eq_true rfl) (Nat.zero_le _) (Nat.zero_le _) rfl dX2_towardsStart_23 rfl rfl ?_
          refine x_istore_n (pc' := 27) (L' := [some (.ref h), none, some (.int a2), some (.int (f_X3_at 24 (E.2 3) x3_5)), some (.int (nI i4_5))]) C dX2_towardsStart_26 rfl rfl (Nat.le_of_ble_eq_true rfl) rfl ?_
          refine x_iinc (pc' := 30) (v := (nI (i4_5 + 1))) (L' := [some (.ref h), none, some (.int a2), some (.int (f_X3_at 24 (E.2 3) x3_5)), some (.int (nI (i4_5 + 1)))]) C dX2_towardsStart_27 rfl rfl (nI_add i4_5 1) (Nat.le_of_ble_eq_true rfl) rfl ?_
          refine x_goto (tgt := 5) C dX2_towardsStart_30 (by decide) ?_
          exact ih5 (f_X3_at 24 (E.2 3) x3_5) (i4_5 + 1) (by omega) (by omega) hRES
  refine x_forget (L' := [some (.ref h), none, some (.int a2), some (.int a1), some (.int 0)]) [0, 2, 3, 4] rfl rfl ?_
  exact loop5 25 a1 0 (by omega) (by omega) hRES

def k_X2_farthest_37 (x1_37 : Int32) : Int32 := x1_37
def l_X2_farthest_4 (E : CS) : Nat → Int32 → Nat → Int32
  | 0, _, _ => 0
  | n4 + 1, x1_4, i2_4 => (if i2_4 < 24 then (if (f_X4_isIn (E.1 0) (nI i2_4)) = true then (l_X2_farthest_4 E n4 (imax x1_4 (f_X2_stepsTo E (nI i2_4))) (i2_4 + 1)) else (l_X2_farthest_4 E n4 x1_4 (i2_4 + 1))) else (k_X2_farthest_37 x1_4))
def f_X2_farthest (E : CS) : Int32 := (l_X2_farthest_4 E 25 0 0)
set_option maxRecDepth 100000 in
set_option maxHeartbeats 8000000 in
theorem c_X2_farthest (l : Launch) (g : GT) (h : Nat) (ad : Nat → Nat) (E : CS) : CR l yX2_farthest (.code yX2_farthest cX2_farthest 3 (some .int)) 2 g [.ref h] (wRe g h ad E) (some (.int (f_X2_farthest E))) := by
  obtain ⟨RES, hRES⟩ : ∃ z, z = (f_X2_farthest E) := ⟨_, rfl⟩
  rw [← hRES]
  unfold f_X2_farthest at hRES
  refine CRx.of (nL := 3) (ret := (some .int)) (own := RX2) (cc := cX2_farthest) rfl (by decide) rfl (List.forall_mem_cons.mpr ⟨rfl, (fun _ h => absurd h List.not_mem_nil)⟩) (Nat.le_of_ble_eq_true rfl) ?_
  intro k C hkl hkg
  subst hkl; subst hkg
  refine x_loc2 (L' := [some (.ref h), none, none]) rfl ?_
  refine x_iconst (v := 0) (pc' := 1) C dX2_farthest_0 rfl (by decide) ?_
  refine x_istore_n (pc' := 2) (L' := [some (.ref h), some (.int 0), none]) C dX2_farthest_1 rfl rfl (Nat.le_of_ble_eq_true rfl) rfl ?_
  refine x_iconst (v := 0) (pc' := 3) C dX2_farthest_2 rfl (by decide) ?_
  refine x_istore_n (pc' := 4) (L' := [some (.ref h), some (.int 0), some (.int 0)]) C dX2_farthest_3 rfl rfl (Nat.le_of_ble_eq_true rfl) rfl ?_
  have cont37 : ∀ (x1_37 : Int32), RES = k_X2_farthest_37 x1_37 → X k 0 0 (wRe (kg k) h ad E) 37 [none, some (.int x1_37), none] [] := by
    intro x1_37 hRES
    unfold k_X2_farthest_37 at hRES
    refine x_iload_n (pc' := 38) C dX2_farthest_37 rfl rfl rfl ?_
    exact x_iret C (Nat.zero_le _) (Nat.zero_le _) dX2_farthest_38 (by rw [hRES])
  have loop4 : ∀ (n4 : Nat) (x1_4 : Int32) (i2_4 : Nat), i2_4 ≤ 24 → 24 < i2_4 + n4 → RES = l_X2_farthest_4 E n4 x1_4 i2_4 → X k 0 0 (wRe (kg k) h ad E) 4 [some (.ref h), some (.int x1_4), some (.int (nI i2_4))] [] := by
    intro n4
    induction n4 with
    | zero =>
      intro x1_4 i2_4 hb4 hf4 hRES
      omega
    | succ n4 ih4 =>
      intro x1_4 i2_4 hb4 hf4 hRES
      rw [l_X2_farthest_4] at hRES
      refine x_iload_n (pc' := 5) C dX2_farthest_4 rfl rfl rfl ?_
      refine x_bipush (v := 24) (pc' := 7) C dX2_farthest_5 rfl (by decide) ?_
      refine x_icmpN_ge (tgt := 37) (pc' := 10) C i2_4 24 dX2_farthest_7 (by decide) rfl (by omega) (by omega) (fun c1 => ?_) (fun c1 => ?_)
      · rw [if_neg c1] at hRES
        refine x_forget (L' := [none, some (.int x1_4), none]) [1] rfl rfl ?_
        exact cont37 x1_4 hRES
      · rw [if_pos c1] at hRES
        refine x_aload_n (pc' := 11) C dX2_farthest_10 rfl rfl rfl ?_
        refine x_get (pc' := 14) (v := .int (E.1 0)) C 0 0 inBX2 rfl rfl (by decide) fl_X2_27 rfl rfl dX2_farthest_11 rfl ?_
        refine x_iload_n (pc' := 15) C dX2_farthest_14 rfl rfl rfl ?_
        refine x_RS (st := []) (st2 := [.int (bI (f_X4_isIn (E.1 0) (nI i2_4)))]) (pc' := 18) C (c_X4_isIn (kl k) (kg k) (E.1 0) (nI i2_4)) cw_X2_50 ok_X4_isIn (by decide) [] rfl rfl rfl (Nat.le_of_ble_eq_true rfl) (Nat.zero_le _) (Nat.zero_le _) rfl dX2_farthest_15 rfl rfl ?_
        refine x_ifB_eq (tgt := 31) (pc' := 21) C dX2_farthest_18 (by decide) rfl (fun c2 => ?_) (fun c2 => ?_)
        · rw [if_neg c2] at hRES
          refine x_iinc (pc' := 34) (v := (nI (i2_4 + 1))) (L' := [some (.ref h), some (.int x1_4), some (.int (nI (i2_4 + 1)))]) C dX2_farthest_31 rfl rfl (nI_add i2_4 1) (Nat.le_of_ble_eq_true rfl) rfl ?_
          refine x_goto (tgt := 4) C dX2_farthest_34 (by decide) ?_
          exact ih4 x1_4 (i2_4 + 1) (by omega) (by omega) hRES
        · rw [if_pos c2] at hRES
          refine x_iload_n (pc' := 22) C dX2_farthest_21 rfl rfl rfl ?_
          refine x_aload_n (pc' := 23) C dX2_farthest_22 rfl rfl rfl ?_
          refine x_iload_n (pc' := 24) C dX2_farthest_23 rfl rfl rfl ?_
          refine x_RV (st := [.int x1_4]) (st2 := [.int (f_X2_stepsTo E (nI i2_4)), .int x1_4]) (pc' := 27) C (c_X2_stepsTo (kl k) (kg k) h ad E (nI i2_4)) cw_X2_54 ok_X2_stepsTo rfl (by decide) 0 rfl rfl [0, 1, 2, 3] rfl rfl rfl (Nat.le_of_ble_eq_true rfl) (Nat.zero_le _) (Nat.zero_le _) rfl dX2_farthest_24 rfl rfl ?_
          refine x_max (pc' := 30) (v := (imax x1_4 (f_X2_stepsTo E (nI i2_4)))) C ml_X2_78 st_max in_Math co_max (by decide) (Nat.le_of_ble_eq_true rfl) (Nat.zero_le _) (Nat.zero_le _) rfl dX2_farthest_27 rfl ?_
          refine x_istore_n (pc' := 31) (L' := [some (.ref h), some (.int (imax x1_4 (f_X2_stepsTo E (nI i2_4)))), some (.int (nI i2_4))]) C dX2_farthest_30 rfl rfl (Nat.le_of_ble_eq_true rfl) rfl ?_
          refine x_iinc (pc' := 34) (v := (nI (i2_4 + 1))) (L' := [some (.ref h), some (.int (imax x1_4 (f_X2_stepsTo E (nI i2_4)))), some (.int (nI (i2_4 + 1)))]) C dX2_farthest_31 rfl rfl (nI_add i2_4 1) (Nat.le_of_ble_eq_true rfl) rfl ?_
          refine x_goto (tgt := 4) C dX2_farthest_34 (by decide) ?_
          exact ih4 (imax x1_4 (f_X2_stepsTo E (nI i2_4))) (i2_4 + 1) (by omega) (by omega) hRES
  exact loop4 25 0 0 (by omega) (by omega) hRES
