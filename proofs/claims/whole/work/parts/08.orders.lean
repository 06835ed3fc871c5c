def f_X1_add (O : CS) (a1 : Int32) : Bool × CS := (if O.1 1 < 0 then (false, O) else (if O.1 1 < 80 then (bind1 (setF O 0 (upd (O.2 0) (O.1 1).toNatClampNeg a1)) (fun z3 => (bind1 (setI z3 1 (z3.1 1 + 1)) (fun z4 => (true, z4))))) else (false, O)))
set_option maxRecDepth 100000 in
set_option maxHeartbeats 8000000 in
theorem c_X1_add (l : Launch) (g : GT) (h : Nat) (ad : Nat → Nat) (O : CS) (a1 : Int32) (hch1 : vp_nar .char a1 = a1) : CW l yX1_add (.code yX1_add cX1_add 2 (some .boolean)) 0 g [.ref h, .int a1] (wOr g h ad O) (some (.int (bI (f_X1_add O a1).1))) (wOr g h ad (f_X1_add O a1).2) := by
  obtain ⟨RES, hRES⟩ : ∃ z, z = (f_X1_add O a1) := ⟨_, rfl⟩
  rw [← hRES]
  unfold f_X1_add at hRES
  refine CWx.of (nL := 2) (ret := (some .boolean)) (own := RX1) (cc := cX1_add) rfl (by decide) rfl (List.forall_mem_cons.mpr ⟨rfl, (List.forall_mem_cons.mpr ⟨rfl, (fun _ h => absurd h List.not_mem_nil)⟩)⟩) (Nat.le_of_ble_eq_true rfl) ?_
  intro k C B hin hkl hkg
  subst hkl; subst hkg
  refine x_loc2 (L' := [some (.ref h), some (.int a1)]) rfl ?_
  refine x_aload_n (pc' := 1) C dX1_add_0 rfl rfl rfl ?_
  refine x_get (pc' := 4) (v := .int (O.1 1)) C 0 1 inBX1 rfl rfl (by decide) fl_X1_28 rfl rfl dX1_add_1 rfl ?_
  refine x_if_lt (tgt := 19) (pc' := 7) C dX1_add_4 (by decide) rfl (fun c1 => ?_) (fun c1 => ?_)
  · rw [if_pos c1] at hRES
    refine x_iconst (v := 0) (pc' := 20) C dX1_add_19 rfl (by decide) ?_
    exact x_zret (b := false) C (Nat.zero_le _) (Nat.zero_le _) dX1_add_20 ⟨by rw [hRES], by rw [hRES]⟩
  · rw [if_neg c1] at hRES
    refine x_aload_n (pc' := 8) C dX1_add_7 rfl rfl rfl ?_
    refine x_get (pc' := 11) (v := .int (O.1 1)) C 0 1 inBX1 rfl rfl (by decide) fl_X1_28 rfl rfl dX1_add_8 rfl ?_
    refine x_aload_n (pc' := 12) C dX1_add_11 rfl rfl rfl ?_
    refine x_get (pc' := 15) (v := .ref (ad 0)) C 0 0 inBX1 rfl rfl (by decide) fl_X1_9 rfl rfl dX1_add_12 rfl ?_
    refine x_alenC (pc' := 16) (v := 80) C 1 rfl (by decide) dX1_add_15 rfl ?_
    refine x_icmp_lt (tgt := 21) (pc' := 19) C dX1_add_16 (by decide) rfl (fun c2 => ?_) (fun c2 => ?_)
    · rw [if_pos c2] at hRES
      refine x_aload_n (pc' := 22) C dX1_add_21 rfl rfl rfl ?_
      refine x_get (pc' := 25) (v := .ref (ad 0)) C 0 0 inBX1 rfl rfl (by decide) fl_X1_9 rfl rfl dX1_add_22 rfl ?_
      refine x_aload_n (pc' := 26) C dX1_add_25 rfl rfl rfl ?_
      refine x_get (pc' := 29) (v := .int (O.1 1)) C 0 1 inBX1 rfl rfl (by decide) fl_X1_28 rfl rfl dX1_add_26 rfl ?_
      refine x_iload_n (pc' := 30) C dX1_add_29 rfl rfl rfl ?_
      obtain ⟨z3, ez3⟩ : ∃ z, z = (setF O 0 (upd (O.2 0) (O.1 1).toNatClampNeg a1)) := ⟨_, rfl⟩
      replace hRES := bd hRES z3 ez3
      refine x_cast (pc' := 31) (f := O.2 0) (w' := wOr (kg k) h ad z3) C B 1 rfl (in_of c1 c2 (by decide)) (by assumption) dX1_add_30 rfl (by rw [ez3]; rfl) ?_
      refine x_aload_n (pc' := 32) C dX1_add_31 rfl rfl rfl ?_
      refine x_dup (pc' := 33) C dX1_add_32 rfl rfl ?_
      refine x_get (pc' := 36) (v := .int (z3.1 1)) C 0 1 inBX1 rfl rfl (by decide) fl_X1_28 rfl rfl dX1_add_33 rfl ?_
      refine x_iconst (v := 1) (pc' := 37) C dX1_add_36 rfl (by decide) ?_
      refine x_iadd (pc' := 38) (v := (z3.1 1 + 1)) C dX1_add_37 rfl rfl ?_
      obtain ⟨z4, ez4⟩ : ∃ z, z = (setI z3 1 (z3.1 1 + 1)) := ⟨_, rfl⟩
      replace hRES := bd hRES z4 ez4
      refine x_put (pc' := 41) (w' := wOr (kg k) h ad z4) (ty := .int) C B 0 1 inBX1 tyX1 tyX1_ok nmX1 rfl rfl (by decide) fl_X1_28 rfl rfl rfl rfl rfl (Nat.le_of_ble_eq_true rfl) dX1_add_38 rfl (by rw [ez4]; rfl) ?_
      refine x_iconst (v := 1) (pc' := 42) C dX1_add_41 rfl (by decide) ?_
      exact x_zret (b := true) C (Nat.zero_le _) (Nat.zero_le _) dX1_add_42 ⟨by rw [hRES], by rw [hRES]⟩
    · rw [if_neg c2] at hRES
      refine x_iconst (v := 0) (pc' := 20) C dX1_add_19 rfl (by decide) ?_
      exact x_zret (b := false) C (Nat.zero_le _) (Nat.zero_le _) dX1_add_20 ⟨by rw [hRES], by rw [hRES]⟩

def f_X1_clear (O : CS) : Int32 × CS := (bind1 (setI O 1 0) (fun z1 => (O.1 1, z1)))
set_option maxRecDepth 100000 in
set_option maxHeartbeats 8000000 in
theorem c_X1_clear (l : Launch) (g : GT) (h : Nat) (ad : Nat → Nat) (O : CS) : CW l yX1_clear (.code yX1_clear cX1_clear 2 (some .int)) 0 g [.ref h] (wOr g h ad O) (some (.int (f_X1_clear O).1)) (wOr g h ad (f_X1_clear O).2) := by
  obtain ⟨RES, hRES⟩ : ∃ z, z = (f_X1_clear O) := ⟨_, rfl⟩
  rw [← hRES]
  unfold f_X1_clear at hRES
  refine CWx.of (nL := 2) (ret := (some .int)) (own := RX1) (cc := cX1_clear) rfl (by decide) rfl (List.forall_mem_cons.mpr ⟨rfl, (fun _ h => absurd h List.not_mem_nil)⟩) (Nat.le_of_ble_eq_true rfl) ?_
  intro k C B hin hkl hkg
  subst hkl; subst hkg
  refine x_loc2 (L' := [some (.ref h), none]) rfl ?_
  refine x_aload_n (pc' := 1) C dX1_clear_0 rfl rfl rfl ?_
  refine x_get (pc' := 4) (v := .int (O.1 1)) C 0 1 inBX1 rfl rfl (by decide) fl_X1_28 rfl rfl dX1_clear_1 rfl ?_
  refine x_istore_n (pc' := 5) (L' := [some (.ref h), some (.int (O.1 1))]) C dX1_clear_4 rfl rfl (Nat.le_of_ble_eq_true rfl) rfl ?_
  refine x_aload_n (pc' := 6) C dX1_clear_5 rfl rfl rfl ?_
  refine x_iconst (v := 0) (pc' := 7) C dX1_clear_6 rfl (by decide) ?_
  obtain ⟨z1, ez1⟩ : ∃ z, z = (setI O 1 0) := ⟨_, rfl⟩
  replace hRES := bd hRES z1 ez1
  refine x_put (pc' := 10) (w' := wOr (kg k) h ad z1) (ty := .int) C B 0 1 inBX1 tyX1 tyX1_ok nmX1 rfl rfl (by decide) fl_X1_28 rfl rfl rfl rfl rfl (Nat.le_of_ble_eq_true rfl) dX1_clear_7 rfl (by rw [ez1]; rfl) ?_
  refine x_iload_n (pc' := 11) C dX1_clear_10 rfl rfl rfl ?_
  exact x_iret C (Nat.zero_le _) (Nat.zero_le _) dX1_clear_11 ⟨by rw [hRES], by rw [hRES]⟩

def f_X1_wordOf (O : CS) (a1 : Int32) : Int32 := (f_X3_at 16 (O.2 4) a1)
set_option maxRecDepth 100000 in
set_option maxHeartbeats 8000000 in
theorem c_X1_wordOf (l : Launch) (g : GT) (h : Nat) (ad : Nat → Nat) (O : CS) (a1 : Int32) : CR l yX1_wordOf (.code yX1_wordOf cX1_wordOf 2 (some .int)) 1 g [.ref h, .int a1] (wOr g h ad O) (some (.int (f_X1_wordOf O a1))) := by
  obtain ⟨RES, hRES⟩ : ∃ z, z = (f_X1_wordOf O a1) := ⟨_, rfl⟩
  rw [← hRES]
  unfold f_X1_wordOf at hRES
  refine CRx.of (nL := 2) (ret := (some .int)) (own := RX1) (cc := cX1_wordOf) rfl (by decide) rfl (List.forall_mem_cons.mpr ⟨rfl, (List.forall_mem_cons.mpr ⟨rfl, (fun _ h => absurd h List.not_mem_nil)⟩)⟩) (Nat.le_of_ble_eq_true rfl) ?_
  intro k C hkl hkg
  subst hkl; subst hkg
  refine x_loc2 (L' := [some (.ref h), some (.int a1)]) rfl ?_
  refine x_aload_n (pc' := 1) C dX1_wordOf_0 rfl rfl rfl ?_
  refine x_get (pc' := 4) (v := .ref (ad 4)) C 0 4 inBX1 rfl rfl (by decide) fl_X1_15 rfl rfl dX1_wordOf_1 rfl ?_
  refine x_iload_n (pc' := 5) C dX1_wordOf_4 rfl rfl rfl ?_
  refine x_RS (st := []) (st2 := [.int (f_X3_at 16 (O.2 4) a1)]) (pc' := 8) C (c_X3_at (kl k) (kg k) (ad 4) 16 (O.2 4) a1 (by decide)) cw_X1_32 ok_X3_at (by decide) [2] rfl rfl rfl (Nat.le_of_ble_eq_true rfl) (Nat.zero_le _) (Nat.zero_le _) rfl dX1_wordOf_5 rfl rfl ?_
  exact x_iret C (Nat.zero_le _) (Nat.zero_le _) dX1_wordOf_8 (by rw [hRES])

def f_X1_firstOf (O : CS) (a1 : Int32) : Int32 := (f_X3_at 16 (O.2 5) a1)
set_option maxRecDepth 100000 in
set_option maxHeartbeats 8000000 in
theorem c_X1_firstOf (l : Launch) (g : GT) (h : Nat) (ad : Nat → Nat) (O : CS) (a1 : Int32) : CR l yX1_firstOf (.code yX1_firstOf cX1_firstOf 2 (some .int)) 1 g [.ref h, .int a1] (wOr g h ad O) (some (.int (f_X1_firstOf O a1))) := by
  obtain ⟨RES, hRES⟩ : ∃ z, z = (f_X1_firstOf O a1) := ⟨_, rfl⟩
  rw [← hRES]
  unfold f_X1_firstOf at hRES
  refine CRx.of (nL := 2) (ret := (some .int)) (own := RX1) (cc := cX1_firstOf) rfl (by decide) rfl (List.forall_mem_cons.mpr ⟨rfl, (List.forall_mem_cons.mpr ⟨rfl, (fun _ h => absurd h List.not_mem_nil)⟩)⟩) (Nat.le_of_ble_eq_true rfl) ?_
  intro k C hkl hkg
  subst hkl; subst hkg
  refine x_loc2 (L' := [some (.ref h), some (.int a1)]) rfl ?_
  refine x_aload_n (pc' := 1) C dX1_firstOf_0 rfl rfl rfl ?_
  refine x_get (pc' := 4) (v := .ref (ad 5)) C 0 5 inBX1 rfl rfl (by decide) fl_X1_19 rfl rfl dX1_firstOf_1 rfl ?_
  refine x_iload_n (pc' := 5) C dX1_firstOf_4 rfl rfl rfl ?_
  refine x_RS (st := []) (st2 := [.int (f_X3_at 16 (O.2 5) a1)]) (pc' := 8) C (c_X3_at (kl k) (kg k) (ad 5) 16 (O.2 5) a1 (by decide)) cw_X1_32 ok_X3_at (by decide) [3] rfl rfl rfl (Nat.le_of_ble_eq_true rfl) (Nat.zero_le _) (Nat.zero_le _) rfl dX1_firstOf_5 rfl rfl ?_
  exact x_iret C (Nat.zero_le _) (Nat.zero_le _) dX1_firstOf_8 (by rw [hRES])

def f_X1_secondOf (O : CS) (a1 : Int32) : Int32 := (f_X3_at 16 (O.2 6) a1)
set_option maxRecDepth 100000 in
set_option maxHeartbeats 8000000 in
theorem c_X1_secondOf (l : Launch) (g : GT) (h : Nat) (ad : Nat → Nat) (O : CS) (a1 : Int32) : CR l yX1_secondOf (.code yX1_secondOf cX1_secondOf 2 (some .int)) 1 g [.ref h, .int a1] (wOr g h ad O) (some (.int (f_X1_secondOf O a1))) := by
  obtain ⟨RES, hRES⟩ : ∃ z, z = (f_X1_secondOf O a1) := ⟨_, rfl⟩
  rw [← hRES]
  unfold f_X1_secondOf at hRES
  refine CRx.of (nL := 2) (ret := (some .int)) (own := RX1) (cc := cX1_secondOf) rfl (by decide) rfl (List.forall_mem_cons.mpr ⟨rfl, (List.forall_mem_cons.mpr ⟨rfl, (fun _ h => absurd h List.not_mem_nil)⟩)⟩) (Nat.le_of_ble_eq_true rfl) ?_
  intro k C hkl hkg
  subst hkl; subst hkg
  refine x_loc2 (L' := [some (.ref h), some (.int a1)]) rfl ?_
  refine x_aload_n (pc' := 1) C dX1_secondOf_0 rfl rfl rfl ?_
  refine x_get (pc' := 4) (v := .ref (ad 6)) C 0 6 inBX1 rfl rfl (by decide) fl_X1_22 rfl rfl dX1_secondOf_1 rfl ?_
  refine x_iload_n (pc' := 5) C dX1_secondOf_4 rfl rfl rfl ?_
  refine x_RS (st := []) (st2 := [.int (f_X3_at 16 (O.2 6) a1)]) (pc' := 8) C (c_X3_at (kl k) (kg k) (ad 6) 16 (O.2 6) a1 (by decide)) cw_X1_32 ok_X3_at (by decide) [4] rfl rfl rfl (Nat.le_of_ble_eq_true rfl) (Nat.zero_le _) (Nat.zero_le _) rfl dX1_secondOf_5 rfl rfl ?_
  exact x_iret C (Nat.zero_le _) (Nat.zero_le _) dX1_secondOf_8 (by rw [hRES])

def f_X1_thirdOf (O : CS) (a1 : Int32) : Int32 := (f_X3_at 16 (O.2 7) a1)
set_option maxRecDepth 100000 in
set_option maxHeartbeats 8000000 in
theorem c_X1_thirdOf (l : Launch) (g : GT) (h : Nat) (ad : Nat → Nat) (O : CS) (a1 : Int32) : CR l yX1_thirdOf (.code yX1_thirdOf cX1_thirdOf 2 (some .int)) 1 g [.ref h, .int a1] (wOr g h ad O) (some (.int (f_X1_thirdOf O a1))) := by
  obtain ⟨RES, hRES⟩ : ∃ z, z = (f_X1_thirdOf O a1) := ⟨_, rfl⟩
  rw [← hRES]
  unfold f_X1_thirdOf at hRES
  refine CRx.of (nL := 2) (ret := (some .int)) (own := RX1) (cc := cX1_thirdOf) rfl (by decide) rfl (List.forall_mem_cons.mpr ⟨rfl, (List.forall_mem_cons.mpr ⟨rfl, (fun _ h => absurd h List.not_mem_nil)⟩)⟩) (Nat.le_of_ble_eq_true rfl) ?_
  intro k C hkl hkg
  subst hkl; subst hkg
  refine x_loc2 (L' := [some (.ref h), some (.int a1)]) rfl ?_
  refine x_aload_n (pc' := 1) C dX1_thirdOf_0 rfl rfl rfl ?_
  refine x_get (pc' := 4) (v := .ref (ad 7)) C 0 7 inBX1 rfl rfl (by decide) fl_X1_25 rfl rfl dX1_thirdOf_1 rfl ?_
  refine x_iload_n (pc' := 5) C dX1_thirdOf_4 rfl rfl rfl ?_
  refine x_RS (st := []) (st2 := [.int (f_X3_at 16 (O.2 7) a1)]) (pc' := 8) C (c_X3_at (kl k) (kg k) (ad 7) 16 (O.2 7) a1 (by decide)) cw_X1_32 ok_X3_at (by decide) [5] rfl rfl rfl (Nat.le_of_ble_eq_true rfl) (Nat.zero_le _) (Nat.zero_le _) rfl dX1_thirdOf_5 rfl rfl ?_
  exact x_iret C (Nat.zero_le _) (Nat.zero_le _) dX1_thirdOf_8 (by rw [hRES])

def f_X1_lettersOf (a1 : Int32) : Nat := (if a1 = 0 then 0 else (if a1 = 1 then 1 else (if a1 = 2 then 2 else (if a1 = 3 then 3 else 4))))
set_option maxRecDepth 100000 in
set_option maxHeartbeats 8000000 in
theorem c_X1_lettersOf (l : Launch) (g : GT) (a1 : Int32) : CR l yX1_lettersOf (.code yX1_lettersOf cX1_lettersOf 1 (some (.object "java/lang/String"))) 0 g [.int a1] ([]) (some (va_rf (some (gK g (f_X1_lettersOf a1))))) := by
  obtain ⟨RES, hRES⟩ : ∃ z, z = (f_X1_lettersOf a1) := ⟨_, rfl⟩
  rw [← hRES]
  unfold f_X1_lettersOf at hRES
  refine CRx.of (nL := 1) (ret := (some (.object "java/lang/String"))) (own := RX1) (cc := cX1_lettersOf) rfl (by decide) rfl (List.forall_mem_cons.mpr ⟨rfl, (fun _ h => absurd h List.not_mem_nil)⟩) (Nat.le_of_ble_eq_true rfl) ?_
  intro k C hkl hkg
  subst hkl; subst hkg
  refine x_loc2 (L' := [some (.int a1)]) rfl ?_
  refine x_iload_n (pc' := 1) C dX1_lettersOf_0 rfl rfl rfl ?_
  by_cases c1 : a1 = 0
  · rw [if_pos c1] at hRES
    refine x_tabIn (off := 31) (tgt := 32) C (0) dX1_lettersOf_1 (by rw [c1]; decide) (by decide) (by decide) rfl (by decide) ?_
    refine x_ldcS (pc' := 34) C 0 (by decide) rfl dX1_lettersOf_32 rfl ?_
    exact x_aret (r := some (gK (kg k) 0)) C rfl (Nat.zero_le _) (Nat.zero_le _) dX1_lettersOf_34 (by rw [hRES])
  · rw [if_neg c1] at hRES
    by_cases c2 : a1 = 1
    · rw [if_pos c2] at hRES
      refine x_tabIn (off := 34) (tgt := 35) C (1) dX1_lettersOf_1 (by rw [c2]; decide) (by decide) (by decide) rfl (by decide) ?_
      refine x_ldcS (pc' := 37) C 1 (by decide) rfl dX1_lettersOf_35 rfl ?_
      exact x_aret (r := some (gK (kg k) 1)) C rfl (Nat.zero_le _) (Nat.zero_le _) dX1_lettersOf_37 (by rw [hRES])
    · rw [if_neg c2] at hRES
      by_cases c3 : a1 = 2
      · rw [if_pos c3] at hRES
        refine x_tabIn (off := 37) (tgt := 38) C (2) dX1_lettersOf_1 (by rw [c3]; decide) (by decide) (by decide) rfl (by decide) ?_
        refine x_ldcS (pc' := 40) C 2 (by decide) rfl dX1_lettersOf_38 rfl ?_
        exact x_aret (r := some (gK (kg k) 2)) C rfl (Nat.zero_le _) (Nat.zero_le _) dX1_lettersOf_40 (by rw [hRES])
      · rw [if_neg c3] at hRES
        by_cases c4 : a1 = 3
        · rw [if_pos c4] at hRES
          refine x_tabIn (off := 40) (tgt := 41) C (3) dX1_lettersOf_1 (by rw [c4]; decide) (by decide) (by decide) rfl (by decide) ?_
          refine x_ldcS (pc' := 43) C 3 (by decide) rfl dX1_lettersOf_41 rfl ?_
          exact x_aret (r := some (gK (kg k) 3)) C rfl (Nat.zero_le _) (Nat.zero_le _) dX1_lettersOf_43 (by rw [hRES])
        · rw [if_neg c4] at hRES
          refine x_tabOut (tgt := 44) C dX1_lettersOf_1 (by have hc1 := lv_neT (a := 0) c1 (by decide); have hc2 := lv_neT (a := 1) c2 (by decide); have hc3 := lv_neT (a := 2) c3 (by decide); have hc4 := lv_neT (a := 3) c4 (by decide); omega) (by decide) ?_
          refine x_ldcS (pc' := 46) C 4 (by decide) rfl dX1_lettersOf_44 rfl ?_
          exact x_aret (r := some (gK (kg k) 4)) C rfl (Nat.zero_le _) (Nat.zero_le _) dX1_lettersOf_46 (by rw [hRES])

def f_X1_signAt (O : CS) (a1 : Int32) : Int32 := (if a1 < 0 then (-1) else (if a1 < O.1 1 then (if a1 < 80 then ((O.2 0) (a1).toNatClampNeg) else (-1)) else (-1)))
set_option maxRecDepth 100000 in
set_option maxHeartbeats 8000000 in
theorem c_X1_signAt (l : Launch) (g : GT) (h : Nat) (ad : Nat → Nat) (O : CS) (a1 : Int32) : CR l yX1_signAt (.code yX1_signAt cX1_signAt 2 (some .int)) 0 g [.ref h, .int a1] (wOr g h ad O) (some (.int (f_X1_signAt O a1))) := by
  obtain ⟨RES, hRES⟩ : ∃ z, z = (f_X1_signAt O a1) := ⟨_, rfl⟩
  rw [← hRES]
  unfold f_X1_signAt at hRES
  refine CRx.of (nL := 2) (ret := (some .int)) (own := RX1) (cc := cX1_signAt) rfl (by decide) rfl (List.forall_mem_cons.mpr ⟨rfl, (List.forall_mem_cons.mpr ⟨rfl, (fun _ h => absurd h List.not_mem_nil)⟩)⟩) (Nat.le_of_ble_eq_true rfl) ?_
  intro k C hkl hkg
  subst hkl; subst hkg
  refine x_loc2 (L' := [some (.ref h), some (.int a1)]) rfl ?_
  refine x_iload_n (pc' := 1) C dX1_signAt_0 rfl rfl rfl ?_
  refine x_if_lt (tgt := 30) (pc' := 4) C dX1_signAt_1 (by decide) rfl (fun c1 => ?_) (fun c1 => ?_)
  · rw [if_pos c1] at hRES
    refine x_iconst (v := (-1)) (pc' := 31) C dX1_signAt_30 rfl (by decide) ?_
    exact x_iret C (Nat.zero_le _) (Nat.zero_le _) dX1_signAt_31 (by rw [hRES])
  · rw [if_neg c1] at hRES
    refine x_iload_n (pc' := 5) C dX1_signAt_4 rfl rfl rfl ?_
    refine x_aload_n (pc' := 6) C dX1_signAt_5 rfl rfl rfl ?_
    refine x_get (pc' := 9) (v := .int (O.1 1)) C 0 1 inBX1 rfl rfl (by decide) fl_X1_28 rfl rfl dX1_signAt_6 rfl ?_
    refine x_icmp_ge (tgt := 30) (pc' := 12) C dX1_signAt_9 (by decide) rfl (fun c2 => ?_) (fun c2 => ?_)
    · rw [if_neg c2] at hRES
      refine x_iconst (v := (-1)) (pc' := 31) C dX1_signAt_30 rfl (by decide) ?_
      exact x_iret C (Nat.zero_le _) (Nat.zero_le _) dX1_signAt_31 (by rw [hRES])
    · rw [if_pos c2] at hRES
      refine x_iload_n (pc' := 13) C dX1_signAt_12 rfl rfl rfl ?_
      refine x_aload_n (pc' := 14) C dX1_signAt_13 rfl rfl rfl ?_
      refine x_get (pc' := 17) (v := .ref (ad 0)) C 0 0 inBX1 rfl rfl (by decide) fl_X1_9 rfl rfl dX1_signAt_14 rfl ?_
      refine x_alenC (pc' := 18) (v := 80) C 1 rfl (by decide) dX1_signAt_17 rfl ?_
      refine x_icmp_ge (tgt := 30) (pc' := 21) C dX1_signAt_18 (by decide) rfl (fun c3 => ?_) (fun c3 => ?_)
      · rw [if_neg c3] at hRES
        refine x_iconst (v := (-1)) (pc' := 31) C dX1_signAt_30 rfl (by decide) ?_
        exact x_iret C (Nat.zero_le _) (Nat.zero_le _) dX1_signAt_31 (by rw [hRES])
      · rw [if_pos c3] at hRES
        refine x_aload_n (pc' := 22) C dX1_signAt_21 rfl rfl rfl ?_
        refine x_get (pc' := 25) (v := .ref (ad 0)) C 0 0 inBX1 rfl rfl (by decide) fl_X1_9 rfl rfl dX1_signAt_22 rfl ?_
        refine x_iload_n (pc' := 26) C dX1_signAt_25 rfl rfl rfl ?_
        refine x_cald (pc' := 27) (f := O.2 0) (v := ((O.2 0) (a1).toNatClampNeg)) C 1 rfl (in_of c1 c3 (by decide)) rfl dX1_signAt_26 rfl ?_
        refine x_goto (tgt := 31) C dX1_signAt_27 (by decide) ?_
        exact x_iret C (Nat.zero_le _) (Nat.zero_le _) dX1_signAt_31 (by rw [hRES])

def k_X1_alikeFromHere_34 (i2_34 : Nat) : Int32 := (nI i2_34)
def ok_X1_alikeFromHere_34 (i2_34 : Nat) : Prop := True
def l_X1_alikeFromHere_2 (O : CS) (a1 : Nat) : Nat → Nat → Int32
  | 0, _ => 0
  | n2 + 1, i2_2 => (if (nI i2_2) < (nI (lenS.getD a1 0)) then (if (f_X1_signAt O (O.1 2 + (nI i2_2))) = (chS a1 (nI i2_2)) then (l_X1_alikeFromHere_2 O a1 n2 (i2_2 + 1)) else (k_X1_alikeFromHere_34 i2_2)) else (k_X1_alikeFromHere_34 i2_2))
def ol_X1_alikeFromHere_2 (O : CS) (a1 : Nat) : Nat → Nat → Prop
  | 0, _ => False
  | n2 + 1, i2_2 => (a1 < 5 ∧ (((nI i2_2) < (nI (lenS.getD a1 0)) → (a1 < 5 ∧ (vp_in (nI i2_2) (lenS.getD a1 0) ∧ (((f_X1_signAt O (O.1 2 + (nI i2_2))) = (chS a1 (nI i2_2)) → (ol_X1_alikeFromHere_2 O a1 n2 (i2_2 + 1))) ∧ (¬ (f_X1_signAt O (O.1 2 + (nI i2_2))) = (chS a1 (nI i2_2)) → (ok_X1_alikeFromHere_34 i2_2)))))) ∧ (¬ (nI i2_2) < (nI (lenS.getD a1 0)) → (ok_X1_alikeFromHere_34 i2_2))))
def f_X1_alikeFromHere (O : CS) (a1 : Nat) : Int32 := (l_X1_alikeFromHere_2 O a1 6 0)
def o_X1_alikeFromHere (O : CS) (a1 : Nat) : Prop := (ol_X1_alikeFromHere_2 O a1 6 0)
set_option maxRecDepth 100000 in
set_option maxHeartbeats 8000000 in
theorem c_X1_alikeFromHere (l : Launch) (g : GT) (h : Nat) (ad : Nat → Nat) (O : CS) (a1 : Nat) (hok : o_X1_alikeFromHere O a1) : CR l yX1_alikeFromHere (.code yX1_alikeFromHere cX1_alikeFromHere 3 (some .int)) 4 g [.ref h, .ref (gK g a1)] (wOr g h ad O) (some (.int (f_X1_alikeFromHere O a1))) := by
  obtain ⟨RES, hRES⟩ : ∃ z, z = (f_X1_alikeFromHere O a1) := ⟨_, rfl⟩
  rw [← hRES]
  unfold f_X1_alikeFromHere at hRES
  unfold o_X1_alikeFromHere at hok
  refine CRx.of (nL := 3) (ret := (some .int)) (own := RX1) (cc := cX1_alikeFromHere) rfl (by decide) rfl (List.forall_mem_cons.mpr ⟨rfl, (List.forall_mem_cons.mpr ⟨rfl, (fun _ h => absurd h List.not_mem_nil)⟩)⟩) (Nat.le_of_ble_eq_true rfl) ?_
  intro k C hkl hkg
  subst hkl; subst hkg
  refine x_loc2 (L' := [some (.ref h), some (.ref (gK (kg k) a1)), none]) rfl ?_
  refine x_iconst (v := 0) (pc' := 1) C dX1_alikeFromHere_0 rfl (by decide) ?_
  refine x_istore_n (pc' := 2) (L' := [some (.ref h), some (.ref (gK (kg k) a1)), some (.int 0)]) C dX1_alikeFromHere_1 rfl rfl (Nat.le_of_ble_eq_true rfl) rfl ?_
  have cont34 : ∀ (i2_34 : Nat), RES = k_X1_alikeFromHere_34 i2_34 → ok_X1_alikeFromHere_34 i2_34 → X k 0 0 (wOr (kg k) h ad O) 34 [none, none, some (.int (nI i2_34))] [] := by
    intro i2_34 hRES hok
    unfold k_X1_alikeFromHere_34 at hRES
    unfold ok_X1_alikeFromHere_34 at hok
    refine x_iload_n (pc' := 35) C dX1_alikeFromHere_34 rfl rfl rfl ?_
    exact x_iret C (Nat.zero_le _) (Nat.zero_le _) dX1_alikeFromHere_35 (by rw [hRES])
  have loop2 : ∀ (n2 : Nat) (i2_2 : Nat), RES = l_X1_alikeFromHere_2 O a1 n2 i2_2 → ol_X1_alikeFromHere_2 O a1 n2 i2_2 → X k 0 0 (wOr (kg k) h ad O) 2 [some (.ref h), some (.ref (gK (kg k) a1)), some (.int (nI i2_2))] [] := by
    intro n2
    induction n2 with
    | zero =>
      intro i2_2 hRES hok
      exact (show False from hok).elim
    | succ n2 ih2 =>
      intro i2_2 hRES hok
      rw [l_X1_alikeFromHere_2] at hRES
      rw [ol_X1_alikeFromHere_2] at hok
      refine x_iload_n (pc' := 3) C dX1_alikeFromHere_2 rfl rfl rfl ?_
      refine x_aload_n (pc' := 4) C dX1_alikeFromHere_3 rfl rfl rfl ?_
      obtain ⟨hn1, hok⟩ := hok
      refine x_ROv (st := [.int (nI i2_2)]) (st2 := [.int (nI (lenS.getD a1 0)), .int (nI i2_2)]) (pc' := 7) C (c_J0_length (kl k) (kg k) a1 hn1) cw_X1_75 ok_J0_length_8abf5 rfl (by decide) (C.2.2.2.2.2.2.2.1.2.1.1 _ hn1).1 [] rfl rfl rfl (Nat.le_of_ble_eq_true rfl) (Nat.zero_le _) (Nat.zero_le _) rfl dX1_alikeFromHere_4 rfl rfl ?_
      refine x_icmp_ge (tgt := 34) (pc' := 10) C dX1_alikeFromHere_7 (by decide) rfl (fun c2 => ?_) (fun c2 => ?_)
      · rw [if_neg c2] at hRES
        replace hok := hok.2 c2
        refine x_forget (L' := [none, none, some (.int (nI i2_2))]) [2] rfl rfl ?_
        exact cont34 i2_2 hRES hok
      · rw [if_pos c2] at hRES
        replace hok := hok.1 c2
        refine x_aload_n (pc' := 11) C dX1_alikeFromHere_10 rfl rfl rfl ?_
        refine x_aload_n (pc' := 12) C dX1_alikeFromHere_11 rfl rfl rfl ?_
        refine x_get (pc' := 15) (v := .int (O.1 2)) C 0 2 inBX1 rfl rfl (by decide) fl_X1_38 rfl rfl dX1_alikeFromHere_12 rfl ?_
        refine x_iload_n (pc' := 16) C dX1_alikeFromHere_15 rfl rfl rfl ?_
        refine x_iadd (pc' := 17) (v := (O.1 2 + (nI i2_2))) C dX1_alikeFromHere_16 rfl rfl ?_
        refine x_RV (st := []) (st2 := [.int (f_X1_signAt O (O.1 2 + (nI i2_2)))]) (pc' := 20) C (c_X1_signAt (kl k) (kg k) h ad O (O.1 2 + (nI i2_2))) cw_X1_85 ok_X1_signAt rfl (by decide) 0 rfl rfl [0, 1, 2, 3, 4, 5] rfl rfl rfl (Nat.le_of_ble_eq_true rfl) (Nat.zero_le _) (Nat.zero_le _) rfl dX1_alikeFromHere_17 rfl rfl ?_
        refine x_aload_n (pc' := 21) C dX1_alikeFromHere_20 rfl rfl rfl ?_
        refine x_iload_n (pc' := 22) C dX1_alikeFromHere_21 rfl rfl rfl ?_
        obtain ⟨hn3, hok⟩ := hok
        obtain ⟨hn4, hok⟩ := hok
        refine x_ROv (st := [.int (f_X1_signAt O (O.1 2 + (nI i2_2)))]) (st2 := [.int (chS a1 (nI i2_2)), .int (f_X1_signAt O (O.1 2 + (nI i2_2)))]) (pc' := 25) C (c_J0_charAt (kl k) (kg k) a1 (nI i2_2) hn3 hn4) cw_X1_89 ok_J0_charAt_5068e rfl (by decide) (C.2.2.2.2.2.2.2.1.2.1.1 _ hn3).1 [] rfl rfl rfl (Nat.le_of_ble_eq_true rfl) (Nat.zero_le _) (Nat.zero_le _) rfl dX1_alikeFromHere_22 rfl rfl ?_
        refine x_icmp_ne (tgt := 34) (pc' := 28) C dX1_alikeFromHere_25 (by decide) rfl (fun c5 => ?_) (fun c5 => ?_)
        · rw [if_neg c5] at hRES
          replace hok := hok.2 c5
          refine x_forget (L' := [none, none, some (.int (nI i2_2))]) [2] rfl rfl ?_
          exact cont34 i2_2 hRES hok
        · rw [if_pos c5] at hRES
          replace hok := hok.1 c5
          refine x_iinc (pc' := 31) (v := (nI (i2_2 + 1))) (L' := [some (.ref h), some (.ref (gK (kg k) a1)), some (.int (nI (i2_2 + 1)))]) C dX1_alikeFromHere_28 rfl rfl (nI_add i2_2 1) (Nat.le_of_ble_eq_true rfl) rfl ?_
          refine x_goto (tgt := 2) C dX1_alikeFromHere_31 (by decide) ?_
          exact ih2 (i2_2 + 1) hRES hok
  exact loop2 6 0 hRES hok

def k_X1_readWord_56 (O : CS) (x1_56 : Int32) : Int32 × CS := (bind1 (setI O 2 (O.1 2 + x1_56)) (fun z1 => ((-1), z1)))
def ok_X1_readWord_56 (O : CS) (x1_56 : Int32) : Prop := (bind1 (setI O 2 (O.1 2 + x1_56)) (fun z1 => True))
def l_X1_readWord_4 (O : CS) : Nat → Int32 → Nat → Int32 × CS
  | 0, _, _ => (0, dfCS)
  | n4 + 1, x1_4, i2_4 => (if 4 < i2_4 then (k_X1_readWord_56 O x1_4) else (if (f_X1_alikeFromHere O (f_X1_lettersOf (nI i2_4))) = (nI (lenS.getD (f_X1_lettersOf (nI i2_4)) 0)) then (bind1 (setI O 2 (O.1 2 + (f_X1_alikeFromHere O (f_X1_lettersOf (nI i2_4))))) (fun z6 => ((nI i2_4), z6))) else (l_X1_readWord_4 O n4 (imax x1_4 (f_X1_alikeFromHere O (f_X1_lettersOf (nI i2_4)))) (i2_4 + 1))))
def ol_X1_readWord_4 (O : CS) : Nat → Int32 → Nat → Prop
  | 0, _, _ => True
  | n4 + 1, x1_4, i2_4 => ((4 < i2_4 → (ok_X1_readWord_56 O x1_4)) ∧ (¬ (4 < i2_4) → ((o_X1_alikeFromHere O (f_X1_lettersOf (nI i2_4))) ∧ ((f_X1_lettersOf (nI i2_4)) < 5 ∧ (((f_X1_alikeFromHere O (f_X1_lettersOf (nI i2_4))) = (nI (lenS.getD (f_X1_lettersOf (nI i2_4)) 0)) → (bind1 (setI O 2 (O.1 2 + (f_X1_alikeFromHere O (f_X1_lettersOf (nI i2_4))))) (fun z6 => True))) ∧ (¬ (f_X1_alikeFromHere O (f_X1_lettersOf (nI i2_4))) = (nI (lenS.getD (f_X1_lettersOf (nI i2_4)) 0)) → (ol_X1_readWord_4 O n4 (imax x1_4 (f_X1_alikeFromHere O (f_X1_lettersOf (nI i2_4)))) (i2_4 + 1))))))))
def f_X1_readWord (O : CS) : Int32 × CS := (l_X1_readWord_4 O 6 0 0)
def o_X1_readWord (O : CS) : Prop := (ol_X1_readWord_4 O 6 0 0)
set_option maxRecDepth 100000 in
set_option maxHeartbeats 8000000 in
theorem c_X1_readWord (l : Launch) (g : GT) (h : Nat) (ad : Nat → Nat) (O : CS) (hok : o_X1_readWord O) : CW l yX1_readWord (.code yX1_readWord cX1_readWord 5 (some .int)) 5 g [.ref h] (wOr g h ad O) (some (.int (f_X1_readWord O).1)) (wOr g h ad (f_X1_readWord O).2) := by
  obtain ⟨RES, hRES⟩ : ∃ z, z = (f_X1_readWord O) := ⟨_, rfl⟩
  rw [← hRES]
  unfold f_X1_readWord at hRES
  unfold o_X1_readWord at hok
  refine CWx.of (nL := 5) (ret := (some .int)) (own := RX1) (cc := cX1_readWord) rfl (by decide) rfl (List.forall_mem_cons.mpr ⟨rfl, (fun _ h => absurd h List.not_mem_nil)⟩) (Nat.le_of_ble_eq_true rfl) ?_
  intro k C B hin hkl hkg
  subst hkl; subst hkg
  refine x_loc2 (L' := [some (.ref h), none, none, none, none]) rfl ?_
  refine x_iconst (v := 0) (pc' := 1) C dX1_readWord_0 rfl (by decide) ?_
  refine x_istore_n (pc' := 2) (L' := [some (.ref h), some (.int 0), none, none, none]) C dX1_readWord_1 rfl rfl (Nat.le_of_ble_eq_true rfl) rfl ?_
  refine x_iconst (v := 0) (pc' := 3) C dX1_readWord_2 rfl (by decide) ?_
  refine x_istore_n (pc' := 4) (L' := [some (.ref h), some (.int 0), some (.int 0), none, none]) C dX1_readWord_3 rfl rfl (Nat.le_of_ble_eq_true rfl) rfl ?_
  have cont56 : ∀ (x1_56 : Int32), RES = k_X1_readWord_56 O x1_56 → ok_X1_readWord_56 O x1_56 → X k 0 0 (wOr (kg k) h ad O) 56 [some (.ref h), some (.int x1_56), none, none, none] [] := by
    intro x1_56 hRES hok
    unfold k_X1_readWord_56 at hRES
    unfold ok_X1_readWord_56 at hok
    refine x_aload_n (pc' := 57) C dX1_readWord_56 rfl rfl rfl ?_
    refine x_dup (pc' := 58) C dX1_readWord_57 rfl rfl ?_
    refine x_get (pc' := 61) (v := .int (O.1 2)) C 0 2 inBX1 rfl rfl (by decide) fl_X1_38 rfl rfl dX1_readWord_58 rfl ?_
    refine x_iload_n (pc' := 62) C dX1_readWord_61 rfl rfl rfl ?_
    refine x_iadd (pc' := 63) (v := (O.1 2 + x1_56)) C dX1_readWord_62 rfl rfl ?_
    obtain ⟨z1, ez1⟩ : ∃ z, z = (setI O 2 (O.1 2 + x1_56)) := ⟨_, rfl⟩
    replace hRES := bd hRES z1 ez1
    replace hok := bdP hok z1 ez1
    refine x_put (pc' := 66) (w' := wOr (kg k) h ad z1) (ty := .int) C B 0 2 inBX1 tyX1 tyX1_ok nmX1 rfl rfl (by decide) fl_X1_38 rfl rfl rfl rfl rfl (Nat.le_of_ble_eq_true rfl) dX1_readWord_63 rfl (by rw [ez1]; rfl) ?_
    refine x_iconst (v := (-1)) (pc' := 67) C dX1_readWord_66 rfl (by decide) ?_
    exact x_iret C (Nat.zero_le _) (Nat.zero_le _) dX1_readWord_67 ⟨by rw [hRES], by rw [hRES]⟩
  have loop4 : ∀ (n4 : Nat) (x1_4 : Int32) (i2_4 : Nat), i2_4 ≤ 5 → 5 < i2_4 + n4 → RES = l_X1_readWord_4 O n4 x1_4 i2_4 → ol_X1_readWord_4 O n4 x1_4 i2_4 → X k 0 0 (wOr (kg k) h ad O) 4 [some (.ref h), some (.int x1_4), some (.int (nI i2_4)), none, none] [] := by
    intro n4
    induction n4 with
    | zero =>
      intro x1_4 i2_4 hb4 hf4 hRES hok
      omega
    | succ n4 ih4 =>
      intro x1_4 i2_4 hb4 hf4 hRES hok
      rw [l_X1_readWord_4] at hRES
      rw [ol_X1_readWord_4] at hok
      refine x_iload_n (pc' := 5) C dX1_readWord_4 rfl rfl rfl ?_
      refine x_iconst (v := 4) (pc' := 6) C dX1_readWord_5 rfl (by decide) ?_
      refine x_icmpN_gt (tgt := 56) (pc' := 9) C i2_4 4 dX1_readWord_6 (by decide) rfl (by omega) (by omega) (fun c2 => ?_) (fun c2 => ?_)
      · rw [if_pos c2] at hRES
        replace hok := hok.1 c2
        refine x_forget (L' := [some (.ref h), some (.int x1_4), none, none, none]) [0, 1] rfl rfl ?_
        exact cont56 x1_4 hRES hok
      · rw [if_neg c2] at hRES
        replace hok := hok.2 c2
        refine x_iload_n (pc' := 10) C dX1_readWord_9 rfl rfl rfl ?_
        refine x_RS (st := []) (st2 := [.ref (gK (kg k) (f_X1_lettersOf (nI i2_4)))]) (pc' := 13) C (c_X1_lettersOf (kl k) (kg k) (nI i2_4)) cw_X1_67 ok_X1_lettersOf (by decide) [] rfl rfl rfl (Nat.le_of_ble_eq_true rfl) (Nat.zero_le _) (Nat.zero_le _) rfl dX1_readWord_10 rfl rfl ?_
        refine x_astore_n (pc' := 14) (L' := [some (.ref h), some (.int x1_4), some (.int (nI i2_4)), some (.ref (gK (kg k) (f_X1_lettersOf (nI i2_4)))), none]) C dX1_readWord_13 rfl rfl (Nat.le_of_ble_eq_true rfl) rfl ?_
        refine x_aload_n (pc' := 15) C dX1_readWord_14 rfl rfl rfl ?_
        refine x_aload_n (pc' := 16) C dX1_readWord_15 rfl rfl rfl ?_
        obtain ⟨hn3, hok⟩ := hok
        refine x_RV (st := []) (st2 := [.int (f_X1_alikeFromHere O (f_X1_lettersOf (nI i2_4)))]) (pc' := 19) C (c_X1_alikeFromHere (kl k) (kg k) h ad O (f_X1_lettersOf (nI i2_4)) hn3) cw_X1_71 ok_X1_alikeFromHere rfl (by decide) 0 rfl rfl [0, 1, 2, 3, 4, 5] rfl rfl rfl (Nat.le_of_ble_eq_true rfl) (Nat.zero_le _) (Nat.zero_le _) rfl dX1_readWord_16 rfl rfl ?_
        refine x_istore (pc' := 21) (L' := [some (.ref h), some (.int x1_4), some (.int (nI i2_4)), some (.ref (gK (kg k) (f_X1_lettersOf (nI i2_4)))), some (.int (f_X1_alikeFromHere O (f_X1_lettersOf (nI i2_4))))]) C dX1_readWord_19 rfl (Nat.le_of_ble_eq_true rfl) rfl ?_
        refine x_iload (pc' := 23) C dX1_readWord_21 rfl rfl ?_
        refine x_aload_n (pc' := 24) C dX1_readWord_23 rfl rfl rfl ?_
        obtain ⟨hn4, hok⟩ := hok
        refine x_ROv (st := [.int (f_X1_alikeFromHere O (f_X1_lettersOf (nI i2_4)))]) (st2 := [.int (nI (lenS.getD (f_X1_lettersOf (nI i2_4)) 0)), .int (f_X1_alikeFromHere O (f_X1_lettersOf (nI i2_4)))]) (pc' := 27) C (c_J0_length (kl k) (kg k) (f_X1_lettersOf (nI i2_4)) hn4) cw_X1_75 ok_J0_length_8abf5 rfl (by decide) (C.2.2.2.2.2.2.2.1.2.1.1 _ hn4).1 [] rfl rfl rfl (Nat.le_of_ble_eq_true rfl) (Nat.zero_le _) (Nat.zero_le _) rfl dX1_readWord_24 rfl rfl ?_
        refine x_icmp_ne (tgt := 43) (pc' := 30) C dX1_readWord_27 (by decide) rfl (fun c5 => ?_) (fun c5 => ?_)
        · rw [if_neg c5] at hRES
          replace hok := hok.2 c5
          refine x_iload_n (pc' := 44) C dX1_readWord_43 rfl rfl rfl ?_
          refine x_iload (pc' := 46) C dX1_readWord_44 rfl rfl ?_
          refine x_max (pc' := 49) (v := (imax x1_4 (f_X1_alikeFromHere O (f_X1_lettersOf (nI i2_4))))) C ml_X1_79 st_max in_Math co_max (by decide) (Nat.le_of_ble_eq_true rfl) (Nat.zero_le _) (Nat.zero_le _) rfl dX1_readWord_46 rfl ?_
          refine x_istore_n (pc' := 50) (L' := [some (.ref h), some (.int (imax x1_4 (f_X1_alikeFromHere O (f_X1_lettersOf (nI i2_4))))), some (.int (nI i2_4)), some (.ref (gK (kg k) (f_X1_lettersOf (nI i2_4)))), some (.int (f_X1_alikeFromHere O (f_X1_lettersOf (nI i2_4))))]) C dX1_readWord_49 rfl rfl (Nat.le_of_ble_eq_true rfl) rfl ?_
          refine x_iinc (pc' := 53) (v := (nI (i2_4 + 1))) (L' := [some (.ref h), some (.int (imax x1_4 (f_X1_alikeFromHere O (f_X1_lettersOf (nI i2_4))))), some (.int (nI (i2_4 + 1))), some (.ref (gK (kg k) (f_X1_lettersOf (nI i2_4)))), some (.int (f_X1_alikeFromHere O (f_X1_lettersOf (nI i2_4))))]) C dX1_readWord_50 rfl rfl (nI_add i2_4 1) (Nat.le_of_ble_eq_true rfl) rfl ?_
          refine x_goto (tgt := 4) C dX1_readWord_53 (by decide) ?_
          refine x_forget (L' := [some (.ref h), some (.int (imax x1_4 (f_X1_alikeFromHere O (f_X1_lettersOf (nI i2_4))))), some (.int (nI (i2_4 + 1))), none, none]) [0, 1, 2] rfl rfl ?_
          exact ih4 (imax x1_4 (f_X1_alikeFromHere O (f_X1_lettersOf (nI i2_4)))) (i2_4 + 1) (by omega) (by omega) hRES hok
        · rw [if_pos c5] at hRES
          replace hok := hok.1 c5
          refine x_aload_n (pc' := 31) C dX1_readWord_30 rfl rfl rfl ?_
          refine x_dup (pc' := 32) C dX1_readWord_31 rfl rfl ?_
          refine x_get (pc' := 35) (v := .int (O.1 2)) C 0 2 inBX1 rfl rfl (by decide) fl_X1_38 rfl rfl dX1_readWord_32 rfl ?_
          refine x_iload (pc' := 37) C dX1_readWord_35 rfl rfl ?_
          refine x_iadd (pc' := 38) (v := (O.1 2 + (f_X1_alikeFromHere O (f_X1_lettersOf (nI i2_4))))) C dX1_readWord_37 rfl rfl ?_
          obtain ⟨z6, ez6⟩ : ∃ z, z = (setI O 2 (O.1 2 + (f_X1_alikeFromHere O (f_X1_lettersOf (nI i2_4))))) := ⟨_, rfl⟩
          replace hRES := bd hRES z6 ez6
          replace hok := bdP hok z6 ez6
          refine x_put (pc' := 41) (w' := wOr (kg k) h ad z6) (ty := .int) C B 0 2 inBX1 tyX1 tyX1_ok nmX1 rfl rfl (by decide) fl_X1_38 rfl rfl rfl rfl rfl (Nat.le_of_ble_eq_true rfl) dX1_readWord_38 rfl (by rw [ez6]; rfl) ?_
          refine x_iload_n (pc' := 42) C dX1_readWord_41 rfl rfl rfl ?_
          exact x_iret C (Nat.zero_le _) (Nat.zero_le _) dX1_readWord_42 ⟨by rw [hRES], by rw [hRES]⟩
  exact loop4 6 0 0 (by omega) (by omega) hRES hok

def f_X1_readSign (O : CS) (a1 : Int32) : Bool × CS := (if (f_X1_signAt O (O.1 2)) = a1 then (bind1 (setI O 2 (O.1 2 + 1)) (fun z2 => (true, z2))) else (false, O))
set_option maxRecDepth 100000 in
set_option maxHeartbeats 8000000 in
theorem c_X1_readSign (l : Launch) (g : GT) (h : Nat) (ad : Nat → Nat) (O : CS) (a1 : Int32) : CW l yX1_readSign (.code yX1_readSign cX1_readSign 2 (some .boolean)) 1 g [.ref h, .int a1] (wOr g h ad O) (some (.int (bI (f_X1_readSign O a1).1))) (wOr g h ad (f_X1_readSign O a1).2) := by
  obtain ⟨RES, hRES⟩ : ∃ z, z = (f_X1_readSign O a1) := ⟨_, rfl⟩
  rw [← hRES]
  unfold f_X1_readSign at hRES
  refine CWx.of (nL := 2) (ret := (some .boolean)) (own := RX1) (cc := cX1_readSign) rfl (by decide) rfl (List.forall_mem_cons.mpr ⟨rfl, (List.forall_mem_cons.mpr ⟨rfl, (fun _ h => absurd h List.not_mem_nil)⟩)⟩) (Nat.le_of_ble_eq_true rfl) ?_
  intro k C B hin hkl hkg
  subst hkl; subst hkg
  refine x_loc2 (L' := [some (.ref h), some (.int a1)]) rfl ?_
  refine x_aload_n (pc' := 1) C dX1_readSign_0 rfl rfl rfl ?_
  refine x_aload_n (pc' := 2) C dX1_readSign_1 rfl rfl rfl ?_
  refine x_get (pc' := 5) (v := .int (O.1 2)) C 0 2 inBX1 rfl rfl (by decide) fl_X1_38 rfl rfl dX1_readSign_2 rfl ?_
  refine x_RV (st := []) (st2 := [.int (f_X1_signAt O (O.1 2))]) (pc' := 8) C (c_X1_signAt (kl k) (kg k) h ad O (O.1 2)) cw_X1_85 ok_X1_signAt rfl (by decide) 0 rfl rfl [0, 1, 2, 3, 4, 5] rfl rfl rfl (Nat.le_of_ble_eq_true rfl) (Nat.zero_le _) (Nat.zero_le _) rfl dX1_readSign_5 rfl rfl ?_
  refine x_iload_n (pc' := 9) C dX1_readSign_8 rfl rfl rfl ?_
  refine x_icmp_eq (tgt := 14) (pc' := 12) C dX1_readSign_9 (by decide) rfl (fun c1 => ?_) (fun c1 => ?_)
  · rw [if_pos c1] at hRES
    refine x_aload_n (pc' := 15) C dX1_readSign_14 rfl rfl rfl ?_
    refine x_dup (pc' := 16) C dX1_readSign_15 rfl rfl ?_
    refine x_get (pc' := 19) (v := .int (O.1 2)) C 0 2 inBX1 rfl rfl (by decide) fl_X1_38 rfl rfl dX1_readSign_16 rfl ?_
    refine x_iconst (v := 1) (pc' := 20) C dX1_readSign_19 rfl (by decide) ?_
    refine x_iadd (pc' := 21) (v := (O.1 2 + 1)) C dX1_readSign_20 rfl rfl ?_
    obtain ⟨z2, ez2⟩ : ∃ z, z = (setI O 2 (O.1 2 + 1)) := ⟨_, rfl⟩
    replace hRES := bd hRES z2 ez2
    refine x_put (pc' := 24) (w' := wOr (kg k) h ad z2) (ty := .int) C B 0 2 inBX1 tyX1 tyX1_ok nmX1 rfl rfl (by decide) fl_X1_38 rfl rfl rfl rfl rfl (Nat.le_of_ble_eq_true rfl) dX1_readSign_21 rfl (by rw [ez2]; rfl) ?_
    refine x_iconst (v := 1) (pc' := 25) C dX1_readSign_24 rfl (by decide) ?_
    exact x_zret (b := true) C (Nat.zero_le _) (Nat.zero_le _) dX1_readSign_25 ⟨by rw [hRES], by rw [hRES]⟩
  · rw [if_neg c1] at hRES
    refine x_iconst (v := 0) (pc' := 13) C dX1_readSign_12 rfl (by decide) ?_
    exact x_zret (b := false) C (Nat.zero_le _) (Nat.zero_le _) dX1_readSign_13 ⟨by rw [hRES], by rw [hRES]⟩

def f_X1_digitAt (O : CS) (a1 : Int32) : Int32 := (if (f_X1_signAt O a1) < 48 then (-1) else (if 57 < (f_X1_signAt O a1) then (-1) else ((f_X1_signAt O a1) - 48)))
set_option maxRecDepth 100000 in
set_option maxHeartbeats 8000000 in
theorem c_X1_digitAt (l : Launch) (g : GT) (h : Nat) (ad : Nat → Nat) (O : CS) (a1 : Int32) : CR l yX1_digitAt (.code yX1_digitAt cX1_digitAt 3 (some .int)) 1 g [.ref h, .int a1] (wOr g h ad O) (some (.int (f_X1_digitAt O a1))) := by
  obtain ⟨RES, hRES⟩ : ∃ z, z = (f_X1_digitAt O a1) := ⟨_, rfl⟩
  rw [← hRES]
  unfold f_X1_digitAt at hRES
  refine CRx.of (nL := 3) (ret := (some .int)) (own := RX1) (cc := cX1_digitAt) rfl (by decide) rfl (List.forall_mem_cons.mpr ⟨rfl, (List.forall_mem_cons.mpr ⟨rfl, (fun _ h => absurd h List.not_mem_nil)⟩)⟩) (Nat.le_of_ble_eq_true rfl) ?_
  intro k C hkl hkg
  subst hkl; subst hkg
  refine x_loc2 (L' := [some (.ref h), some (.int a1), none]) rfl ?_
  refine x_aload_n (pc' := 1) C dX1_digitAt_0 rfl rfl rfl ?_
  refine x_iload_n (pc' := 2) C dX1_digitAt_1 rfl rfl rfl ?_
  refine x_RV (st := []) (st2 := [.int (f_X1_signAt O a1)]) (pc' := 5) C (c_X1_signAt (kl k) (kg k) h ad O a1) cw_X1_85 ok_X1_signAt rfl (by decide) 0 rfl rfl [0, 1, 2, 3, 4, 5] rfl rfl rfl (Nat.le_of_ble_eq_true rfl) (Nat.zero_le _) (Nat.zero_le _) rfl dX1_digitAt_2 rfl rfl ?_
  refine x_istore_n (pc' := 6) (L' := [some (.ref h), some (.int a1), some (.int (f_X1_signAt O a1))]) C dX1_digitAt_5 rfl rfl (Nat.le_of_ble_eq_true rfl) rfl ?_
  refine x_iload_n (pc' := 7) C dX1_digitAt_6 rfl rfl rfl ?_
  refine x_bipush (v := 48) (pc' := 9) C dX1_digitAt_7 rfl (by decide) ?_
  refine x_icmp_lt (tgt := 25) (pc' := 12) C dX1_digitAt_9 (by decide) rfl (fun c1 => ?_) (fun c1 => ?_)
  · rw [if_pos c1] at hRES
    refine x_iconst (v := (-1)) (pc' := 26) C dX1_digitAt_25 rfl (by decide) ?_
    exact x_iret C (Nat.zero_le _) (Nat.zero_le _) dX1_digitAt_26 (by rw [hRES])
  · rw [if_neg c1] at hRES
    refine x_iload_n (pc' := 13) C dX1_digitAt_12 rfl rfl rfl ?_
    refine x_bipush (v := 57) (pc' := 15) C dX1_digitAt_13 rfl (by decide) ?_
    refine x_icmp_gt (tgt := 25) (pc' := 18) C dX1_digitAt_15 (by decide) rfl (fun c2 => ?_) (fun c2 => ?_)
    · rw [if_pos c2] at hRES
      refine x_iconst (v := (-1)) (pc' := 26) C dX1_digitAt_25 rfl (by decide) ?_
      exact x_iret C (Nat.zero_le _) (Nat.zero_le _) dX1_digitAt_26 (by rw [hRES])
    · rw [if_neg c2] at hRES
      refine x_iload_n (pc' := 19) C dX1_digitAt_18 rfl rfl rfl ?_
      refine x_bipush (v := 48) (pc' := 21) C dX1_digitAt_19 rfl (by decide) ?_
      refine x_isub (pc' := 22) (v := ((f_X1_signAt O a1) - 48)) C dX1_digitAt_21 rfl rfl ?_
      refine x_goto (tgt := 26) C dX1_digitAt_22 (by decide) ?_
      exact x_iret C (Nat.zero_le _) (Nat.zero_le _) dX1_digitAt_26 (by rw [hRES])

def k_X1_readMoreDigits_62 (O_62 : CS) (x3_62 : Int32) : Int32 × CS := (x3_62, O_62)
def ok_X1_readMoreDigits_62 (O_62 : CS) (x3_62 : Int32) : Prop := True
def l_X1_readMoreDigits_2 (a2 : Int32) : Nat → CS → Int32 → Int32 × CS
  | 0, _, _ => (0, dfCS)
  | n2 + 1, O_2, x3_2 => (if O_2.1 2 < O_2.1 1 then (if (f_X1_digitAt O_2 (O_2.1 2)) < 0 then (x3_2, O_2) else (if a2 < ((x3_2 * 10) + (f_X1_digitAt O_2 (O_2.1 2))) then (x3_2, O_2) else (bind1 (setI O_2 2 (O_2.1 2 + 1)) (fun z4 => (l_X1_readMoreDigits_2 a2 n2 z4 ((x3_2 * 10) + (f_X1_digitAt O_2 (O_2.1 2)))))))) else (k_X1_readMoreDigits_62 O_2 x3_2))
def ol_X1_readMoreDigits_2 (a2 : Int32) : Nat → CS → Int32 → Prop
  | 0, _, _ => False
  | n2 + 1, O_2, x3_2 => ((O_2.1 2 < O_2.1 1 → (((f_X1_digitAt O_2 (O_2.1 2)) < 0 → True) ∧ (¬ (f_X1_digitAt O_2 (O_2.1 2)) < 0 → ((a2 < ((x3_2 * 10) + (f_X1_digitAt O_2 (O_2.1 2))) → True) ∧ (¬ (a2 < ((x3_2 * 10) + (f_X1_digitAt O_2 (O_2.1 2)))) → (bind1 (setI O_2 2 (O_2.1 2 + 1)) (fun z4 => (ol_X1_readMoreDigits_2 a2 n2 z4 ((x3_2 * 10) + (f_X1_digitAt O_2 (O_2.1 2))))))))))) ∧ (¬ (O_2.1 2 < O_2.1 1) → (ok_X1_readMoreDigits_62 O_2 x3_2)))
def f_X1_readMoreDigits (O : CS) (a1 : Int32) (a2 : Int32) : Int32 × CS := (l_X1_readMoreDigits_2 a2 82 O a1)
def o_X1_readMoreDigits (O : CS) (a1 : Int32) (a2 : Int32) : Prop := (ol_X1_readMoreDigits_2 a2 82 O a1)
set_option maxRecDepth 100000 in
set_option maxHeartbeats 8000000 in
theorem c_X1_readMoreDigits (l : Launch) (g : GT) (h : Nat) (ad : Nat → Nat) (O : CS) (a1 : Int32) (a2 : Int32) (hok : o_X1_readMoreDigits O a1 a2) : CW l yX1_readMoreDigits (.code yX1_readMoreDigits cX1_readMoreDigits 5 (some .int)) 2 g [.ref h, .int a1, .int a2] (wOr g h ad O) (some (.int (f_X1_readMoreDigits O a1 a2).1)) (wOr g h ad (f_X1_readMoreDigits O a1 a2).2) := by
  obtain ⟨RES, hRES⟩ : ∃ z, z = (f_X1_readMoreDigits O a1 a2) := ⟨_, rfl⟩
  rw [← hRES]
  unfold f_X1_readMoreDigits at hRES
  unfold o_X1_readMoreDigits at hok
  refine CWx.of (nL := 5) (ret := (some .int)) (own := RX1) (cc := cX1_readMoreDigits) rfl (by decide) rfl (List.forall_mem_cons.mpr ⟨rfl, (List.forall_mem_cons.mpr ⟨rfl, (List.forall_mem_cons.mpr ⟨rfl, (fun _ h => absurd h List.not_mem_nil)⟩)⟩)⟩) (Nat.le_of_ble_eq_true rfl) ?_
  intro k C B hin hkl hkg
  subst hkl; subst hkg
  refine x_loc2 (L' := [some (.ref h), some (.int a1), some (.int a2), none, none]) rfl ?_
  refine x_iload_n (pc' := 1) C dX1_readMoreDigits_0 rfl rfl rfl ?_
  refine x_istore_n (pc' := 2) (L' := [some (.ref h), some (.int a1), some (.int a2), some (.int a1), none]) C dX1_readMoreDigits_1 rfl rfl (Nat.le_of_ble_eq_true rfl) rfl ?_
  have cont62 : ∀ (O_62 : CS) (x3_62 : Int32), RES = k_X1_readMoreDigits_62 O_62 x3_62 → ok_X1_readMoreDigits_62 O_62 x3_62 → X k 0 0 (wOr (kg k) h ad O_62) 62 [none, none, none, some (.int x3_62), none] [] := by
    intro O_62 x3_62 hRES hok
    unfold k_X1_readMoreDigits_62 at hRES
    unfold ok_X1_readMoreDigits_62 at hok
    refine x_iload_n (pc' := 63) C dX1_readMoreDigits_62 rfl rfl rfl ?_
    exact x_iret C (Nat.zero_le _) (Nat.zero_le _) dX1_readMoreDigits_63 ⟨by rw [hRES], by rw [hRES]⟩
  have loop2 : ∀ (n2 : Nat) (O_2 : CS) (x3_2 : Int32), RES = l_X1_readMoreDigits_2 a2 n2 O_2 x3_2 → ol_X1_readMoreDigits_2 a2 n2 O_2 x3_2 → X k 0 0 (wOr (kg k) h ad O_2) 2 [some (.ref h), none, some (.int a2), some (.int x3_2), none] [] := by
    intro n2
    induction n2 with
    | zero =>
      intro O_2 x3_2 hRES hok
      exact (show False from hok).elim
    | succ n2 ih2 =>
      intro O_2 x3_2 hRES hok
      rw [l_X1_readMoreDigits_2] at hRES
      rw [ol_X1_readMoreDigits_2] at hok
      refine x_aload_n (pc' := 3) C dX1_readMoreDigits_2 rfl rfl rfl ?_
      refine x_get (pc' := 6) (v := .int (O_2.1 2)) C 0 2 inBX1 rfl rfl (by decide) fl_X1_38 rfl rfl dX1_readMoreDigits_3 rfl ?_
      refine x_aload_n (pc' := 7) C dX1_readMoreDigits_6 rfl rfl rfl ?_
      refine x_get (pc' := 10) (v := .int (O_2.1 1)) C 0 1 inBX1 rfl rfl (by decide) fl_X1_28 rfl rfl dX1_readMoreDigits_7 rfl ?_
      refine x_icmp_ge (tgt := 62) (pc' := 13) C dX1_readMoreDigits_10 (by decide) rfl (fun c1 => ?_) (fun c1 => ?_)
      · rw [if_neg c1] at hRES
        replace hok := hok.2 c1
        refine x_forget (L' := [none, none, none, some (.int x3_2), none]) [2] rfl rfl ?_
        exact cont62 O_2 x3_2 hRES hok
      · rw [if_pos c1] at hRES
        replace hok := hok.1 c1
        refine x_aload_n (pc' := 14) C dX1_readMoreDigits_13 rfl rfl rfl ?_
        refine x_aload_n (pc' := 15) C dX1_readMoreDigits_14 rfl rfl rfl ?_
        refine x_get (pc' := 18) (v := .int (O_2.1 2)) C 0 2 inBX1 rfl rfl (by decide) fl_X1_38 rfl rfl dX1_readMoreDigits_15 rfl ?_
        refine x_RV (st := []) (st2 := [.int (f_X1_digitAt O_2 (O_2.1 2))]) (pc' := 21) C (c_X1_digitAt (kl k) (kg k) h ad O_2 (O_2.1 2)) cw_X1_103 ok_X1_digitAt rfl (by decide) 0 rfl rfl [0, 1, 2, 3, 4, 5] rfl rfl rfl (Nat.le_of_ble_eq_true rfl) (Nat.zero_le _) (Nat.zero_le _) rfl dX1_readMoreDigits_18 rfl rfl ?_
        refine x_istore (pc' := 23) (L' := [some (.ref h), none, some (.int a2), some (.int x3_2), some (.int (f_X1_digitAt O_2 (O_2.1 2)))]) C dX1_readMoreDigits_21 rfl (Nat.le_of_ble_eq_true rfl) rfl ?_
        refine x_iload (pc' := 25) C dX1_readMoreDigits_23 rfl rfl ?_
        refine x_if_lt (tgt := 39) (pc' := 28) C dX1_readMoreDigits_25 (by decide) rfl (fun c2 => ?_) (fun c2 => ?_)
        · rw [if_pos c2] at hRES
          replace hok := hok.1 c2
          refine x_iload_n (pc' := 40) C dX1_readMoreDigits_39 rfl rfl rfl ?_
          exact x_iret C (Nat.zero_le _) (Nat.zero_le _) dX1_readMoreDigits_40 ⟨by rw [hRES], by rw [hRES]⟩
        · rw [if_neg c2] at hRES
          replace hok := hok.2 c2
          refine x_iload_n (pc' := 29) C dX1_readMoreDigits_28 rfl rfl rfl ?_
          refine x_bipush (v := 10) (pc' := 31) C dX1_readMoreDigits_29 rfl (by decide) ?_
          refine x_imul (pc' := 32) (v := (x3_2 * 10)) C dX1_readMoreDigits_31 rfl rfl ?_
          refine x_iload (pc' := 34) C dX1_readMoreDigits_32 rfl rfl ?_
          refine x_iadd (pc' := 35) (v := ((x3_2 * 10) + (f_X1_digitAt O_2 (O_2.1 2)))) C dX1_readMoreDigits_34 rfl rfl ?_
          refine x_iload_n (pc' := 36) C dX1_readMoreDigits_35 rfl rfl rfl ?_
          refine x_icmp_le (tgt := 41) (pc' := 39) C dX1_readMoreDigits_36 (by decide) rfl (fun c3 => ?_) (fun c3 => ?_)
          · rw [if_neg c3] at hRES
            replace hok := hok.2 c3
            refine x_iload_n (pc' := 42) C dX1_readMoreDigits_41 rfl rfl rfl ?_
            refine x_bipush (v := 10) (pc' := 44) C dX1_readMoreDigits_42 rfl (by decide) ?_
            refine x_imul (pc' := 45) (v := (x3_2 * 10)) C dX1_readMoreDigits_44 rfl rfl ?_
            refine x_iload (pc' := 47) C dX1_readMoreDigits_45 rfl rfl ?_
            refine x_iadd (pc' := 48) (v := ((x3_2 * 10) + (f_X1_digitAt O_2 (O_2.1 2)))) C dX1_readMoreDigits_47 rfl rfl ?_
            refine x_istore_n (pc' := 49) (L' := [some (.ref h), none, some (.int a2), some (.int ((x3_2 * 10) + (f_X1_digitAt O_2 (O_2.1 2)))), some (.int (f_X1_digitAt O_2 (O_2.1 2)))]) C dX1_readMoreDigits_48 rfl rfl (Nat.le_of_ble_eq_true rfl) rfl ?_
            refine x_aload_n (pc' := 50) C dX1_readMoreDigits_49 rfl rfl rfl ?_
            refine x_dup (pc' := 51) C dX1_readMoreDigits_50 rfl rfl ?_
            refine x_get (pc' := 54) (v := .int (O_2.1 2)) C 0 2 inBX1 rfl rfl (by decide) fl_X1_38 rfl rfl dX1_readMoreDigits_51 rfl ?_
            refine x_iconst (v := 1) (pc' := 55) C dX1_readMoreDigits_54 rfl (by decide) ?_
            refine x_iadd (pc' := 56) (v := (O_2.1 2 + 1)) C dX1_readMoreDigits_55 rfl rfl ?_
            obtain ⟨z4, ez4⟩ : ∃ z, z = (setI O_2 2 (O_2.1 2 + 1)) := ⟨_, rfl⟩
            replace hRES := bd hRES z4 ez4
            replace hok := bdP hok z4 ez4
            refine x_put (pc' := 59) (w' := wOr (kg k) h ad z4) (ty := .int) C B 0 2 inBX1 tyX1 tyX1_ok nmX1 rfl rfl (by decide) fl_X1_38 rfl rfl rfl rfl rfl (Nat.le_of_ble_eq_true rfl) dX1_readMoreDigits_56 rfl (by rw [ez4]; rfl) ?_
            refine x_goto (tgt := 2) C dX1_readMoreDigits_59 (by decide) ?_
            refine x_forget (L' := [some (.ref h), none, some (.int a2), some (.int ((x3_2 * 10) + (f_X1_digitAt O_2 (O_2.1 2)))), none]) [0, 1, 2] rfl rfl ?_
            exact ih2 z4 ((x3_2 * 10) + (f_X1_digitAt O_2 (O_2.1 2))) hRES hok
          · rw [if_pos c3] at hRES
            replace hok := hok.1 c3
            refine x_iload_n (pc' := 40) C dX1_readMoreDigits_39 rfl rfl rfl ?_
            exact x_iret C (Nat.zero_le _) (Nat.zero_le _) dX1_readMoreDigits_40 ⟨by rw [hRES], by rw [hRES]⟩
  refine x_forget (L' := [some (.ref h), none, some (.int a2), some (.int a1), none]) [0, 2, 3] rfl rfl ?_
  exact loop2 82 O a1 hRES hok

def f_X1_readNumber5 (O : CS) (a2 : Int32) : Bool × CS := (bind1 (f_X1_readSign O 32) (fun z1 => (if z1.1 = true then (if (f_X1_digitAt z1.2 (z1.2.1 2)) < 0 then (false, z1.2) else (if a2 < (f_X1_digitAt z1.2 (z1.2.1 2)) then (false, z1.2) else (bind1 (setI z1.2 2 (z1.2.1 2 + 1)) (fun z5 => (if 0 < (f_X1_digitAt z1.2 (z1.2.1 2)) then (bind1 (f_X1_readMoreDigits z5 (f_X1_digitAt z1.2 (z1.2.1 2)) a2) (fun z9 => (bind1 (setF z9.2 5 (f_X3_put 16 (z9.2.2 5) (z9.2.1 3) z9.1)) (fun z10 => (true, z10))))) else (bind1 (setF z5 5 (f_X3_put 16 (z5.2 5) (z5.1 3) (f_X1_digitAt z1.2 (z1.2.1 2)))) (fun z7 => (true, z7)))))))) else (false, z1.2))))
def o_X1_readNumber5 (O : CS) (a2 : Int32) : Prop := (bind1 (f_X1_readSign O 32) (fun z1 => ((z1.1 = true → (((f_X1_digitAt z1.2 (z1.2.1 2)) < 0 → True) ∧ (¬ (f_X1_digitAt z1.2 (z1.2.1 2)) < 0 → ((a2 < (f_X1_digitAt z1.2 (z1.2.1 2)) → True) ∧ (¬ (a2 < (f_X1_digitAt z1.2 (z1.2.1 2))) → (bind1 (setI z1.2 2 (z1.2.1 2 + 1)) (fun z5 => ((0 < (f_X1_digitAt z1.2 (z1.2.1 2)) → ((o_X1_readMoreDigits z5 (f_X1_digitAt z1.2 (z1.2.1 2)) a2) ∧ (bind1 (f_X1_readMoreDigits z5 (f_X1_digitAt z1.2 (z1.2.1 2)) a2) (fun z9 => (bind1 (setF z9.2 5 (f_X3_put 16 (z9.2.2 5) (z9.2.1 3) z9.1)) (fun z10 => True)))))) ∧ (¬ (0 < (f_X1_digitAt z1.2 (z1.2.1 2))) → (bind1 (setF z5 5 (f_X3_put 16 (z5.2 5) (z5.1 3) (f_X1_digitAt z1.2 (z1.2.1 2)))) (fun z7 => True))))))))))) ∧ (¬ (z1.1 = true) → True))))
set_option maxRecDepth 100000 in
set_option maxHeartbeats 8000000 in
theorem c_X1_readNumber5 (l : Launch) (g : GT) (h : Nat) (ad : Nat → Nat) (O : CS) (a2 : Int32) (hok : o_X1_readNumber5 O a2) : CW l yX1_readNumber (.code yX1_readNumber cX1_readNumber 4 (some .boolean)) 3 g [.ref h, .ref (ad 5), .int a2] (wOr g h ad O) (some (.int (bI (f_X1_readNumber5 O a2).1))) (wOr g h ad (f_X1_readNumber5 O a2).2) := by
  obtain ⟨RES, hRES⟩ : ∃ z, z = (f_X1_readNumber5 O a2) := ⟨_, rfl⟩
  rw [← hRES]
  unfold f_X1_readNumber5 at hRES
  unfold o_X1_readNumber5 at hok
  refine CWx.of (nL := 4) (ret := (some .boolean)) (own := RX1) (cc := cX1_readNumber) rfl (by decide) rfl (List.forall_mem_cons.mpr ⟨rfl, (List.forall_mem_cons.mpr ⟨rfl, (List.forall_mem_cons.mpr ⟨rfl, (fun _ h => absurd h List.not_mem_nil)⟩)⟩)⟩) (Nat.le_of_ble_eq_true rfl) ?_
  intro k C B hin hkl hkg
  subst hkl; subst hkg
  refine x_loc2 (L' := [some (.ref h), some (.ref (ad 5)), some (.int a2), none]) rfl ?_
  refine x_aload_n (pc' := 1) C dX1_readNumber_0 rfl rfl rfl ?_
  refine x_bipush (v := 32) (pc' := 3) C dX1_readNumber_1 rfl (by decide) ?_
  obtain ⟨z1, ez1⟩ : ∃ z, z = (f_X1_readSign O 32) := ⟨_, rfl⟩
  replace hRES := bd hRES z1 ez1
  replace hok := bdP hok z1 ez1
  have hc := c_X1_readSign (kl k) (kg k) h ad O 32
  rw [← ez1] at hc
  refine x_WV (st := []) (st2 := [.int (bI z1.1)]) (pc' := 6) C B hc cw_X1_48 ok_X1_readSign rfl (by decide) 0 rfl rfl [0, 1, 2, 3, 4, 5] [] [0, 1, 2, 3, 4, 5] (wOr (kg k) h ad z1.2) rfl rfl rfl rfl (by decide) rfl rfl rfl (Nat.le_of_ble_eq_true rfl) (Nat.zero_le _) (Nat.zero_le _) rfl dX1_readNumber_3 rfl rfl ?_
  refine x_ifB_ne (tgt := 11) (pc' := 9) C dX1_readNumber_6 (by decide) rfl (fun c2 => ?_) (fun c2 => ?_)
  · rw [if_pos c2] at hRES
    replace hok := hok.1 c2
    refine x_aload_n (pc' := 12) C dX1_readNumber_11 rfl rfl rfl ?_
    refine x_aload_n (pc' := 13) C dX1_readNumber_12 rfl rfl rfl ?_
    refine x_get (pc' := 16) (v := .int (z1.2.1 2)) C 0 2 inBX1 rfl rfl (by decide) fl_X1_38 rfl rfl dX1_readNumber_13 rfl ?_
    refine x_RV (st := []) (st2 := [.int (f_X1_digitAt z1.2 (z1.2.1 2))]) (pc' := 19) C (c_X1_digitAt (kl k) (kg k) h ad z1.2 (z1.2.1 2)) cw_X1_103 ok_X1_digitAt rfl (by decide) 0 rfl rfl [0, 1, 2, 3, 4, 5] rfl rfl rfl (Nat.le_of_ble_eq_true rfl) (Nat.zero_le _) (Nat.zero_le _) rfl dX1_readNumber_16 rfl rfl ?_
    refine x_istore_n (pc' := 20) (L' := [some (.ref h), some (.ref (ad 5)), some (.int a2), some (.int (f_X1_digitAt z1.2 (z1.2.1 2)))]) C dX1_readNumber_19 rfl rfl (Nat.le_of_ble_eq_true rfl) rfl ?_
    refine x_iload_n (pc' := 21) C dX1_readNumber_20 rfl rfl rfl ?_
    refine x_if_lt (tgt := 29) (pc' := 24) C dX1_readNumber_21 (by decide) rfl (fun c3 => ?_) (fun c3 => ?_)
    · rw [if_pos c3] at hRES
      replace hok := hok.1 c3
      refine x_iconst (v := 0) (pc' := 30) C dX1_readNumber_29 rfl (by decide) ?_
      exact x_zret (b := false) C (Nat.zero_le _) (Nat.zero_le _) dX1_readNumber_30 ⟨by rw [hRES], by rw [hRES]⟩
    · rw [if_neg c3] at hRES
      replace hok := hok.2 c3
      refine x_iload_n (pc' := 25) C dX1_readNumber_24 rfl rfl rfl ?_
      refine x_iload_n (pc' := 26) C dX1_readNumber_25 rfl rfl rfl ?_
      refine x_icmp_le (tgt := 31) (pc' := 29) C dX1_readNumber_26 (by decide) rfl (fun c4 => ?_) (fun c4 => ?_)
      · rw [if_neg c4] at hRES
        replace hok := hok.2 c4
        refine x_aload_n (pc' := 32) C dX1_readNumber_31 rfl rfl rfl ?_
        refine x_dup (pc' := 33) C dX1_readNumber_32 rfl rfl ?_
        refine x_get (pc' := 36) (v := .int (z1.2.1 2)) C 0 2 inBX1 rfl rfl (by decide) fl_X1_38 rfl rfl dX1_readNumber_33 rfl ?_
        refine x_iconst (v := 1) (pc' := 37) C dX1_readNumber_36 rfl (by decide) ?_
        refine x_iadd (pc' := 38) (v := (z1.2.1 2 + 1)) C dX1_readNumber_37 rfl rfl ?_
        obtain ⟨z5, ez5⟩ : ∃ z, z = (setI z1.2 2 (z1.2.1 2 + 1)) := ⟨_, rfl⟩
        replace hRES := bd hRES z5 ez5
        replace hok := bdP hok z5 ez5
        refine x_put (pc' := 41) (w' := wOr (kg k) h ad z5) (ty := .int) C B 0 2 inBX1 tyX1 tyX1_ok nmX1 rfl rfl (by decide) fl_X1_38 rfl rfl rfl rfl rfl (Nat.le_of_ble_eq_true rfl) dX1_readNumber_38 rfl (by rw [ez5]; rfl) ?_
        refine x_iload_n (pc' := 42) C dX1_readNumber_41 rfl rfl rfl ?_
        refine x_if_le (tgt := 52) (pc' := 45) C dX1_readNumber_42 (by decide) rfl (fun c6 => ?_) (fun c6 => ?_)
        · rw [if_neg c6] at hRES
          replace hok := hok.2 c6
          refine x_aload_n (pc' := 53) C dX1_readNumber_52 rfl rfl rfl ?_
          refine x_aload_n (pc' := 54) C dX1_readNumber_53 rfl rfl rfl ?_
          refine x_get (pc' := 57) (v := .int (z5.1 3)) C 0 3 inBX1 rfl rfl (by decide) fl_X1_41 rfl rfl dX1_readNumber_54 rfl ?_
          refine x_iload_n (pc' := 58) C dX1_readNumber_57 rfl rfl rfl ?_
          obtain ⟨z7, ez7⟩ : ∃ z, z = (setF z5 5 (f_X3_put 16 (z5.2 5) (z5.1 3) (f_X1_digitAt z1.2 (z1.2.1 2)))) := ⟨_, rfl⟩
          replace hRES := bd hRES z7 ez7
          replace hok := bdP hok z7 ez7
          refine x_WS (st := []) (st2 := []) (pc' := 61) C B (c_X3_put (kl k) (kg k) (ad 5) 16 (z5.2 5) (z5.1 3) (f_X1_digitAt z1.2 (z1.2.1 2)) (by decide)) cw_X1_56 ok_X3_put (by decide) [3] [0, 1, 2, 4, 5] [0, 1, 2, 5, 3, 4] (wOr (kg k) h ad z7) rfl rfl rfl rfl (by decide) rfl (by rw [ez7]; rfl) rfl (Nat.le_of_ble_eq_true rfl) (Nat.zero_le _) (Nat.zero_le _) rfl dX1_readNumber_58 rfl rfl ?_
          refine x_iconst (v := 1) (pc' := 62) C dX1_readNumber_61 rfl (by decide) ?_
          exact x_zret (b := true) C (Nat.zero_le _) (Nat.zero_le _) dX1_readNumber_62 ⟨by rw [hRES], by rw [hRES]⟩
        · rw [if_pos c6] at hRES
          replace hok := hok.1 c6
          refine x_aload_n (pc' := 46) C dX1_readNumber_45 rfl rfl rfl ?_
          refine x_iload_n (pc' := 47) C dX1_readNumber_46 rfl rfl rfl ?_
          refine x_iload_n (pc' := 48) C dX1_readNumber_47 rfl rfl rfl ?_
          obtain ⟨hn8, hok⟩ := hok
          obtain ⟨z9, ez9⟩ : ∃ z, z = (f_X1_readMoreDigits z5 (f_X1_digitAt z1.2 (z1.2.1 2)) a2) := ⟨_, rfl⟩
          replace hRES := bd hRES z9 ez9
          replace hok := bdP hok z9 ez9
          have hc := c_X1_readMoreDigits (kl k) (kg k) h ad z5 (f_X1_digitAt z1.2 (z1.2.1 2)) a2 hn8
          rw [← ez9] at hc
          refine x_WV (st := []) (st2 := [.int z9.1]) (pc' := 51) C B hc cw_X1_106 ok_X1_readMoreDigits rfl (by decide) 0 rfl rfl [0, 1, 2, 3, 4, 5] [] [0, 1, 2, 3, 4, 5] (wOr (kg k) h ad z9.2) rfl rfl rfl rfl (by decide) rfl rfl rfl (Nat.le_of_ble_eq_true rfl) (Nat.zero_le _) (Nat.zero_le _) rfl dX1_readNumber_48 rfl rfl ?_
          refine x_istore_n (pc' := 52) (L' := [some (.ref h), some (.ref (ad 5)), some (.int a2), some (.int z9.1)]) C dX1_readNumber_51 rfl rfl (Nat.le_of_ble_eq_true rfl) rfl ?_
          refine x_aload_n (pc' := 53) C dX1_readNumber_52 rfl rfl rfl ?_
          refine x_aload_n (pc' := 54) C dX1_readNumber_53 rfl rfl rfl ?_
          refine x_get (pc' := 57) (v := .int (z9.2.1 3)) C 0 3 inBX1 rfl rfl (by decide) fl_X1_41 rfl rfl dX1_readNumber_54 rfl ?_
          refine x_iload_n (pc' := 58) C dX1_readNumber_57 rfl rfl rfl ?_
          obtain ⟨z10, ez10⟩ : ∃ z, z = (setF z9.2 5 (f_X3_put 16 (z9.2.2 5) (z9.2.1 3) z9.1)) := ⟨_, rfl⟩
          replace hRES := bd hRES z10 ez10
          replace hok := bdP hok z10 ez10
          refine x_WS (st := []) (st2 := []) (pc' := 61) C B (c_X3_put (kl k) (kg k) (ad 5) 16 (z9.2.2 5) (z9.2.1 3) z9.1 (by decide)) cw_X1_56 ok_X3_put (by decide) [3] [0, 1, 2, 4, 5] [0, 1, 2, 5, 3, 4] (wOr (kg k) h ad z10) rfl rfl rfl rfl (by decide) rfl (by rw [ez10]; rfl) rfl (Nat.le_of_ble_eq_true rfl) (Nat.zero_le _) (Nat.zero_le _) rfl dX1_readNumber_58 rfl rfl ?_
          refine x_iconst (v := 1) (pc' := 62) C dX1_readNumber_61 rfl (by decide) ?_
          exact x_zret (b := true) C (Nat.zero_le _) (Nat.zero_le _) dX1_readNumber_62 ⟨by rw [hRES], by rw [hRES]⟩
      · rw [if_pos c4] at hRES
        replace hok := hok.1 c4
        refine x_iconst (v := 0) (pc' := 30) C dX1_readNumber_29 rfl (by decide) ?_
        exact x_zret (b := false) C (Nat.zero_le _) (Nat.zero_le _) dX1_readNumber_30 ⟨by rw [hRES], by rw [hRES]⟩
  · rw [if_neg c2] at hRES
    replace hok := hok.2 c2
    refine x_iconst (v := 0) (pc' := 10) C dX1_readNumber_9 rfl (by decide) ?_
    exact x_zret (b := false) C (Nat.zero_le _) (Nat.zero_le _) dX1_readNumber_10 ⟨by rw [hRES], by rw [hRES]⟩

def f_X1_readNumber6 (O : CS) (a2 : Int32) : Bool × CS := (bind1 (f_X1_readSign O 32) (fun z1 => (if z1.1 = true then (if (f_X1_digitAt z1.2 (z1.2.1 2)) < 0 then (false, z1.2) else (if a2 < (f_X1_digitAt z1.2 (z1.2.1 2)) then (false, z1.2) else (bind1 (setI z1.2 2 (z1.2.1 2 + 1)) (fun z5 => (if 0 < (f_X1_digitAt z1.2 (z1.2.1 2)) then (bind1 (f_X1_readMoreDigits z5 (f_X1_digitAt z1.2 (z1.2.1 2)) a2) (fun z9 => (bind1 (setF z9.2 6 (f_X3_put 16 (z9.2.2 6) (z9.2.1 3) z9.1)) (fun z10 => (true, z10))))) else (bind1 (setF z5 6 (f_X3_put 16 (z5.2 6) (z5.1 3) (f_X1_digitAt z1.2 (z1.2.1 2)))) (fun z7 => (true, z7)))))))) else (false, z1.2))))
def o_X1_readNumber6 (O : CS) (a2 : Int32) : Prop := (bind1 (f_X1_readSign O 32) (fun z1 => ((z1.1 = true → (((f_X1_digitAt z1.2 (z1.2.1 2)) < 0 → True) ∧ (¬ (f_X1_digitAt z1.2 (z1.2.1 2)) < 0 → ((a2 < (f_X1_digitAt z1.2 (z1.2.1 2)) → True) ∧ (¬ (a2 < (f_X1_digitAt z1.2 (z1.2.1 2))) → (bind1 (setI z1.2 2 (z1.2.1 2 + 1)) (fun z5 => ((0 < (f_X1_digitAt z1.2 (z1.2.1 2)) → ((o_X1_readMoreDigits z5 (f_X1_digitAt z1.2 (z1.2.1 2)) a2) ∧ (bind1 (f_X1_readMoreDigits z5 (f_X1_digitAt z1.2 (z1.2.1 2)) a2) (fun z9 => (bind1 (setF z9.2 6 (f_X3_put 16 (z9.2.2 6) (z9.2.1 3) z9.1)) (fun z10 => True)))))) ∧ (¬ (0 < (f_X1_digitAt z1.2 (z1.2.1 2))) → (bind1 (setF z5 6 (f_X3_put 16 (z5.2 6) (z5.1 3) (f_X1_digitAt z1.2 (z1.2.1 2)))) (fun z7 => True))))))))))) ∧ (¬ (z1.1 = true) → True))))
set_option maxRecDepth 100000 in
set_option maxHeartbeats 8000000 in
theorem c_X1_readNumber6 (l : Launch) (g : GT) (h : Nat) (ad : Nat → Nat) (O : CS) (a2 : Int32) (hok : o_X1_readNumber6 O a2) : CW l yX1_readNumber (.code yX1_readNumber cX1_readNumber 4 (some .boolean)) 3 g [.ref h, .ref (ad 6), .int a2] (wOr g h ad O) (some (.int (bI (f_X1_readNumber6 O a2).1))) (wOr g h ad (f_X1_readNumber6 O a2).2) := by
  obtain ⟨RES, hRES⟩ : ∃ z, z = (f_X1_readNumber6 O a2) := ⟨_, rfl⟩
  rw [← hRES]
  unfold f_X1_readNumber6 at hRES
  unfold o_X1_readNumber6 at hok
  refine CWx.of (nL := 4) (ret := (some .boolean)) (own := RX1) (cc := cX1_readNumber) rfl (by decide) rfl (List.forall_mem_cons.mpr ⟨rfl, (List.forall_mem_cons.mpr ⟨rfl, (List.forall_mem_cons.mpr ⟨rfl, (fun _ h => absurd h List.not_mem_nil)⟩)⟩)⟩) (Nat.le_of_ble_eq_true rfl) ?_
  intro k C B hin hkl hkg
  subst hkl; subst hkg
  refine x_loc2 (L' := [some (.ref h), some (.ref (ad 6)), some (.int a2), none]) rfl ?_
  refine x_aload_n (pc' := 1) C dX1_readNumber_0 rfl rfl rfl ?_
  refine x_bipush (v := 32) (pc' := 3) C dX1_readNumber_1 rfl (by decide) ?_
  obtain ⟨z1, ez1⟩ : ∃ z, z = (f_X1_readSign O 32) := ⟨_, rfl⟩
  replace hRES := bd hRES z1 ez1
  replace hok := bdP hok z1 ez1
  have hc := c_X1_readSign (kl k) (kg k) h ad O 32
  rw [← ez1] at hc
  refine x_WV (st := []) (st2 := [.int (bI z1.1)]) (pc' := 6) C B hc cw_X1_48 ok_X1_readSign rfl (by decide) 0 rfl rfl [0, 1, 2, 3, 4, 5] [] [0, 1, 2, 3, 4, 5] (wOr (kg k) h ad z1.2) rfl rfl rfl rfl (by decide) rfl rfl rfl (Nat.le_of_ble_eq_true rfl) (Nat.zero_le _) (Nat.zero_le _) rfl dX1_readNumber_3 rfl rfl ?_
  refine x_ifB_ne (tgt := 11) (pc' := 9) C dX1_readNumber_6 (by decide) rfl (fun c2 => ?_) (fun c2 => ?_)
  · rw [if_pos c2] at hRES
    replace hok := hok.1 c2
    refine x_aload_n (pc' := 12) C dX1_readNumber_11 rfl rfl rfl ?_
    refine x_aload_n (pc' := 13) C dX1_readNumber_12 rfl rfl rfl ?_
    refine x_get (pc' := 16) (v := .int (z1.2.1 2)) C 0 2 inBX1 rfl rfl (by decide) fl_X1_38 rfl rfl dX1_readNumber_13 rfl ?_
    refine x_RV (st := []) (st2 := [.int (f_X1_digitAt z1.2 (z1.2.1 2))]) (pc' := 19) C (c_X1_digitAt (kl k) (kg k) h ad z1.2 (z1.2.1 2)) cw_X1_103 ok_X1_digitAt rfl (by decide) 0 rfl rfl [0, 1, 2, 3, 4, 5] rfl rfl rfl (Nat.le_of_ble_eq_true rfl) (Nat.zero_le _) (Nat.zero_le _) rfl dX1_readNumber_16 rfl rfl ?_
    refine x_istore_n (pc' := 20) (L' := [some (.ref h), some (.ref (ad 6)), some (.int a2), some (.int (f_X1_digitAt z1.2 (z1.2.1 2)))]) C dX1_readNumber_19 rfl rfl (Nat.le_of_ble_eq_true rfl) rfl ?_
    refine x_iload_n (pc' := 21) C dX1_readNumber_20 rfl rfl rfl ?_
    refine x_if_lt (tgt := 29) (pc' := 24) C dX1_readNumber_21 (by decide) rfl (fun c3 => ?_) (fun c3 => ?_)
    · rw [if_pos c3] at hRES
      replace hok := hok.1 c3
      refine x_iconst (v := 0) (pc' := 30) C dX1_readNumber_29 rfl (by decide) ?_
      exact x_zret (b := false) C (Nat.zero_le _) (Nat.zero_le _) dX1_readNumber_30 ⟨by rw [hRES], by rw [hRES]⟩
    · rw [if_neg c3] at hRES
      replace hok := hok.2 c3
      refine x_iload_n (pc' := 25) C dX1_readNumber_24 rfl rfl rfl ?_
      refine x_iload_n (pc' := 26) C dX1_readNumber_25 rfl rfl rfl ?_
      refine x_icmp_le (tgt := 31) (pc' := 29) C dX1_readNumber_26 (by decide) rfl (fun c4 => ?_) (fun c4 => ?_)
      · rw [if_neg c4] at hRES
        replace hok := hok.2 c4
        refine x_aload_n (pc' := 32) C dX1_readNumber_31 rfl rfl rfl ?_
        refine x_dup (pc' := 33) C dX1_readNumber_32 rfl rfl ?_
        refine x_get (pc' := 36) (v := .int (z1.2.1 2)) C 0 2 inBX1 rfl rfl (by decide) fl_X1_38 rfl rfl dX1_readNumber_33 rfl ?_
        refine x_iconst (v := 1) (pc' := 37) C dX1_readNumber_36 rfl (by decide) ?_
        refine x_iadd (pc' := 38) (v := (z1.2.1 2 + 1)) C dX1_readNumber_37 rfl rfl ?_
        obtain ⟨z5, ez5⟩ : ∃ z, z = (setI z1.2 2 (z1.2.1 2 + 1)) := ⟨_, rfl⟩
        replace hRES := bd hRES z5 ez5
        replace hok := bdP hok z5 ez5
        refine x_put (pc' := 41) (w' := wOr (kg k) h ad z5) (ty := .int) C B 0 2 inBX1 tyX1 tyX1_ok nmX1 rfl rfl (by decide) fl_X1_38 rfl rfl rfl rfl rfl (Nat.le_of_ble_eq_true rfl) dX1_readNumber_38 rfl (by rw [ez5]; rfl) ?_
        refine x_iload_n (pc' := 42) C dX1_readNumber_41 rfl rfl rfl ?_
        refine x_if_le (tgt := 52) (pc' := 45) C dX1_readNumber_42 (by decide) rfl (fun c6 => ?_) (fun c6 => ?_)
        · rw [if_neg c6] at hRES
          replace hok := hok.2 c6
          refine x_aload_n (pc' := 53) C dX1_readNumber_52 rfl rfl rfl ?_
          refine x_aload_n (pc' := 54) C dX1_readNumber_53 rfl rfl rfl ?_
          refine x_get (pc' := 57) (v := .int (z5.1 3)) C 0 3 inBX1 rfl rfl (by decide) fl_X1_41 rfl rfl dX1_readNumber_54 rfl ?_
          refine x_iload_n (pc' := 58) C dX1_readNumber_57 rfl rfl rfl ?_
          obtain ⟨z7, ez7⟩ : ∃ z, z = (setF z5 6 (f_X3_put 16 (z5.2 6) (z5.1 3) (f_X1_digitAt z1.2 (z1.2.1 2)))) := ⟨_, rfl⟩
          replace hRES := bd hRES z7 ez7
          replace hok := bdP hok z7 ez7
          refine x_WS (st := []) (st2 := []) (pc' := 61) C B (c_X3_put (kl k) (kg k) (ad 6) 16 (z5.2 6) (z5.1 3) (f_X1_digitAt z1.2 (z1.2.1 2)) (by decide)) cw_X1_56 ok_X3_put (by decide) [4] [0, 1, 2, 3, 5] [0, 1, 2, 3, 5, 4] (wOr (kg k) h ad z7) rfl rfl rfl rfl (by decide) rfl (by rw [ez7]; rfl) rfl (Nat.le_of_ble_eq_true rfl) (Nat.zero_le _) (Nat.zero_le _) rfl dX1_readNumber_58 rfl rfl ?_
          refine x_iconst (v := 1) (pc' := 62) C dX1_readNumber_61 rfl (by decide) ?_
          exact x_zret (b := true) C (Nat.zero_le _) (Nat.zero_le _) dX1_readNumber_62 ⟨by rw [hRES], by rw [hRES]⟩
        · rw [if_pos c6] at hRES
          replace hok := hok.1 c6
          refine x_aload_n (pc' := 46) C dX1_readNumber_45 rfl rfl rfl ?_
          refine x_iload_n (pc' := 47) C dX1_readNumber_46 rfl rfl rfl ?_
          refine x_iload_n (pc' := 48) C dX1_readNumber_47 rfl rfl rfl ?_
          obtain ⟨hn8, hok⟩ := hok
          obtain ⟨z9, ez9⟩ : ∃ z, z = (f_X1_readMoreDigits z5 (f_X1_digitAt z1.2 (z1.2.1 2)) a2) := ⟨_, rfl⟩
          replace hRES := bd hRES z9 ez9
          replace hok := bdP hok z9 ez9
          have hc := c_X1_readMoreDigits (kl k) (kg k) h ad z5 (f_X1_digitAt z1.2 (z1.2.1 2)) a2 hn8
          rw [← ez9] at hc
          refine x_WV (st := []) (st2 := [.int z9.1]) (pc' := 51) C B hc cw_X1_106 ok_X1_readMoreDigits rfl (by decide) 0 rfl rfl [0, 1, 2, 3, 4, 5] [] [0, 1, 2, 3, 4, 5] (wOr (kg k) h ad z9.2) rfl rfl rfl rfl (by decide) rfl rfl rfl (Nat.le_of_ble_eq_true rfl) (Nat.zero_le _) (Nat.zero_le _) rfl dX1_readNumber_48 rfl rfl ?_
          refine x_istore_n (pc' := 52) (L' := [some (.ref h), some (.ref (ad 6)), some (.int a2), some (.int z9.1)]) C dX1_readNumber_51 rfl rfl (Nat.le_of_ble_eq_true rfl) rfl ?_
          refine x_aload_n (pc' := 53) C dX1_readNumber_52 rfl rfl rfl ?_
          refine x_aload_n (pc' := 54) C dX1_readNumber_53 rfl rfl rfl ?_
          refine x_get (pc' := 57) (v := .int (z9.2.1 3)) C 0 3 inBX1 rfl rfl (by decide) fl_X1_41 rfl rfl dX1_readNumber_54 rfl ?_
          refine x_iload_n (pc' := 58) C dX1_readNumber_57 rfl rfl rfl ?_
          obtain ⟨z10, ez10⟩ : ∃ z, z = (setF z9.2 6 (f_X3_put 16 (z9.2.2 6) (z9.2.1 3) z9.1)) := ⟨_, rfl⟩
          replace hRES := bd hRES z10 ez10
          replace hok := bdP hok z10 ez10
          refine x_WS (st := []) (st2 := []) (pc' := 61) C B (c_X3_put (kl k) (kg k) (ad 6) 16 (z9.2.2 6) (z9.2.1 3) z9.1 (by decide)) cw_X1_56 ok_X3_put (by decide) [4] [0, 1, 2, 3, 5] [0, 1, 2, 3, 5, 4] (wOr (kg k) h ad z10) rfl rfl rfl rfl (by decide) rfl (by rw [ez10]; rfl) rfl (Nat.le_of_ble_eq_true rfl) (Nat.zero_le _) (Nat.zero_le _) rfl dX1_readNumber_58 rfl rfl ?_
          refine x_iconst (v := 1) (pc' := 62) C dX1_readNumber_61 rfl (by decide) ?_
          exact x_zret (b := true) C (Nat.zero_le _) (Nat.zero_le _) dX1_readNumber_62 ⟨by rw [hRES], by rw [hRES]⟩
      · rw [if_pos c4] at hRES
        replace hok := hok.1 c4
        refine x_iconst (v := 0) (pc' := 30) C dX1_readNumber_29 rfl (by decide) ?_
        exact x_zret (b := false) C (Nat.zero_le _) (Nat.zero_le _) dX1_readNumber_30 ⟨by rw [hRES], by rw [hRES]⟩
  · rw [if_neg c2] at hRES
    replace hok := hok.2 c2
    refine x_iconst (v := 0) (pc' := 10) C dX1_readNumber_9 rfl (by decide) ?_
    exact x_zret (b := false) C (Nat.zero_le _) (Nat.zero_le _) dX1_readNumber_10 ⟨by rw [hRES], by rw [hRES]⟩

def f_X1_readNumber7 (O : CS) (a2 : Int32) : Bool × CS := (bind1 (f_X1_readSign O 32) (fun z1 => (if z1.1 = true then (if (f_X1_digitAt z1.2 (z1.2.1 2)) < 0 then (false, z1.2) else (if a2 < (f_X1_digitAt z1.2 (z1.2.1 2)) then (false, z1.2) else (bind1 (setI z1.2 2 (z1.2.1 2 + 1)) (fun z5 => (if 0 < (f_X1_digitAt z1.2 (z1.2.1 2)) then (bind1 (f_X1_readMoreDigits z5 (f_X1_digitAt z1.2 (z1.2.1 2)) a2) (fun z9 => (bind1 (setF z9.2 7 (f_X3_put 16 (z9.2.2 7) (z9.2.1 3) z9.1)) (fun z10 => (true, z10))))) else (bind1 (setF z5 7 (f_X3_put 16 (z5.2 7) (z5.1 3) (f_X1_digitAt z1.2 (z1.2.1 2)))) (fun z7 => (true, z7)))))))) else (false, z1.2))))
def o_X1_readNumber7 (O : CS) (a2 : Int32) : Prop := (bind1 (f_X1_readSign O 32) (fun z1 => ((z1.1 = true → (((f_X1_digitAt z1.2 (z1.2.1 2)) < 0 → True) ∧ (¬ (f_X1_digitAt z1.2 (z1.2.1 2)) < 0 → ((a2 < (f_X1_digitAt z1.2 (z1.2.1 2)) → True) ∧ (¬ (a2 < (f_X1_digitAt z1.2 (z1.2.1 2))) → (bind1 (setI z1.2 2 (z1.2.1 2 + 1)) (fun z5 => ((0 < (f_X1_digitAt z1.2 (z1.2.1 2)) → ((o_X1_readMoreDigits z5 (f_X1_digitAt z1.2 (z1.2.1 2)) a2) ∧ (bind1 (f_X1_readMoreDigits z5 (f_X1_digitAt z1.2 (z1.2.1 2)) a2) (fun z9 => (bind1 (setF z9.2 7 (f_X3_put 16 (z9.2.2 7) (z9.2.1 3) z9.1)) (fun z10 => True)))))) ∧ (¬ (0 < (f_X1_digitAt z1.2 (z1.2.1 2))) → (bind1 (setF z5 7 (f_X3_put 16 (z5.2 7) (z5.1 3) (f_X1_digitAt z1.2 (z1.2.1 2)))) (fun z7 => True))))))))))) ∧ (¬ (z1.1 = true) → True))))
set_option maxRecDepth 100000 in
set_option maxHeartbeats 8000000 in
theorem c_X1_readNumber7 (l : Launch) (g : GT) (h : Nat) (ad : Nat → Nat) (O : CS) (a2 : Int32) (hok : o_X1_readNumber7 O a2) : CW l yX1_readNumber (.code yX1_readNumber cX1_readNumber 4 (some .boolean)) 3 g [.ref h, .ref (ad 7), .int a2] (wOr g h ad O) (some (.int (bI (f_X1_readNumber7 O a2).1))) (wOr g h ad (f_X1_readNumber7 O a2).2) := by
  obtain ⟨RES, hRES⟩ : ∃ z, z = (f_X1_readNumber7 O a2) := ⟨_, rfl⟩
  rw [← hRES]
  unfold f_X1_readNumber7 at hRES
  unfold o_X1_readNumber7 at hok
  refine CWx.of (nL := 4) (ret := (some .boolean)) (own := RX1) (cc := cX1_readNumber) rfl (by decide) rfl (List.forall_mem_cons.mpr ⟨rfl, (List.forall_mem_cons.mpr ⟨rfl, (List.forall_mem_cons.mpr ⟨rfl, (fun _ h => absurd h List.not_mem_nil)⟩)⟩)⟩) (Nat.le_of_ble_eq_true rfl) ?_
  intro k C B hin hkl hkg
  subst hkl; subst hkg
  refine x_loc2 (L' := [some (.ref h), some (.ref (ad 7)), some (.int a2), none]) rfl ?_
  refine x_aload_n (pc' := 1) C dX1_readNumber_0 rfl rfl rfl ?_
  refine x_bipush (v := 32) (pc' := 3) C dX1_readNumber_1 rfl (by decide) ?_
  obtain ⟨z1, ez1⟩ : ∃ z, z = (f_X1_readSign O 32) := ⟨_, rfl⟩
  replace hRES := bd hRES z1 ez1
  replace hok := bdP hok z1 ez1
  have hc := c_X1_readSign (kl k) (kg k) h ad O 32
  rw [← ez1] at hc
  refine x_WV (st := []) (st2 := [.int (bI z1.1)]) (pc' := 6) C B hc cw_X1_48 ok_X1_readSign rfl (by decide) 0 rfl rfl [0, 1, 2, 3, 4, 5] [] [0, 1, 2, 3, 4, 5] (wOr (kg k) h ad z1.2) rfl rfl rfl rfl (by decide) rfl rfl rfl (Nat.le_of_ble_eq_true rfl) (Nat.zero_le _) (Nat.zero_le _) rfl dX1_readNumber_3 rfl rfl ?_
  refine x_ifB_ne (tgt := 11) (pc' := 9) C dX1_readNumber_6 (by decide) rfl (fun c2 => ?_) (fun c2 => ?_)
  · rw [if_pos c2] at hRES
    replace hok := hok.1 c2
    refine x_aload_n (pc' := 12) C dX1_readNumber_11 rfl rfl rfl ?_
    refine x_aload_n (pc' := 13) C dX1_readNumber_12 rfl rfl rfl ?_
    refine x_get (pc' := 16) (v := .int (z1.2.1 2)) C 0 2 inBX1 rfl rfl (by decide) fl_X1_38 rfl rfl dX1_readNumber_13 rfl ?_
    refine x_RV (st := []) (st2 := [.int (f_X1_digitAt z1.2 (z1.2.1 2))]) (pc' := 19) C (c_X1_digitAt (kl k) (kg k) h ad z1.2 (z1.2.1 2)) cw_X1_103 ok_X1_digitAt rfl (by decide) 0 rfl rfl [0, 1, 2, 3, 4, 5] rfl rfl rfl (Nat.le_of_ble_eq_true rfl) (Nat.zero_le _) (Nat.zero_le _) rfl dX1_readNumber_16 rfl rfl ?_
    refine x_istore_n (pc' := 20) (L' := [some (.ref h), some (.ref (ad 7)), some (.int a2), some (.int (f_X1_digitAt z1.2 (z1.2.1 2)))]) C dX1_readNumber_19 rfl rfl (Nat.le_of_ble_eq_true rfl) rfl ?_
    refine x_iload_n (pc' := 21) C dX1_readNumber_20 rfl rfl rfl ?_
    refine x_if_lt (tgt := 29) (pc' := 24) C dX1_readNumber_21 (by decide) rfl (fun c3 => ?_) (fun c3 => ?_)
    · rw [if_pos c3] at hRES
      replace hok := hok.1 c3
      refine x_iconst (v := 0) (pc' := 30) C dX1_readNumber_29 rfl (by decide) ?_
      exact x_zret (b := false) C (Nat.zero_le _) (Nat.zero_le _) dX1_readNumber_30 ⟨by rw [hRES], by rw [hRES]⟩
    · rw [if_neg c3] at hRES
      replace hok := hok.2 c3
      refine x_iload_n (pc' := 25) C dX1_readNumber_24 rfl rfl rfl ?_
      refine x_iload_n (pc' := 26) C dX1_readNumber_25 rfl rfl rfl ?_
      refine x_icmp_le (tgt := 31) (pc' := 29) C dX1_readNumber_26 (by decide) rfl (fun c4 => ?_) (fun c4 => ?_)
      · rw [if_neg c4] at hRES
        replace hok := hok.2 c4
        refine x_aload_n (pc' := 32) C dX1_readNumber_31 rfl rfl rfl ?_
        refine x_dup (pc' := 33) C dX1_readNumber_32 rfl rfl ?_
        refine x_get (pc' := 36) (v := .int (z1.2.1 2)) C 0 2 inBX1 rfl rfl (by decide) fl_X1_38 rfl rfl dX1_readNumber_33 rfl ?_
        refine x_iconst (v := 1) (pc' := 37) C dX1_readNumber_36 rfl (by decide) ?_
        refine x_iadd (pc' := 38) (v := (z1.2.1 2 + 1)) C dX1_readNumber_37 rfl rfl ?_
        obtain ⟨z5, ez5⟩ : ∃ z, z = (setI z1.2 2 (z1.2.1 2 + 1)) := ⟨_, rfl⟩
        replace hRES := bd hRES z5 ez5
        replace hok := bdP hok z5 ez5
        refine x_put (pc' := 41) (w' := wOr (kg k) h ad z5) (ty := .int) C B 0 2 inBX1 tyX1 tyX1_ok nmX1 rfl rfl (by decide) fl_X1_38 rfl rfl rfl rfl rfl (Nat.le_of_ble_eq_true rfl) dX1_readNumber_38 rfl (by rw [ez5]; rfl) ?_
        refine x_iload_n (pc' := 42) C dX1_readNumber_41 rfl rfl rfl ?_
        refine x_if_le (tgt := 52) (pc' := 45) C dX1_readNumber_42 (by decide) rfl (fun c6 => ?_) (fun c6 => ?_)
        · rw [if_neg c6] at hRES
          replace hok := hok.2 c6
          refine x_aload_n (pc' := 53) C dX1_readNumber_52 rfl rfl rfl ?_
          refine x_aload_n (pc' := 54) C dX1_readNumber_53 rfl rfl rfl ?_
          refine x_get (pc' := 57) (v := .int (z5.1 3)) C 0 3 inBX1 rfl rfl (by decide) fl_X1_41 rfl rfl dX1_readNumber_54 rfl ?_
          refine x_iload_n (pc' := 58) C dX1_readNumber_57 rfl rfl rfl ?_
          obtain ⟨z7, ez7⟩ : ∃ z, z = (setF z5 7 (f_X3_put 16 (z5.2 7) (z5.1 3) (f_X1_digitAt z1.2 (z1.2.1 2)))) := ⟨_, rfl⟩
          replace hRES := bd hRES z7 ez7
          replace hok := bdP hok z7 ez7
          refine x_WS (st := []) (st2 := []) (pc' := 61) C B (c_X3_put (kl k) (kg k) (ad 7) 16 (z5.2 7) (z5.1 3) (f_X1_digitAt z1.2 (z1.2.1 2)) (by decide)) cw_X1_56 ok_X3_put (by decide) [5] [0, 1, 2, 3, 4] [0, 1, 2, 3, 4, 5] (wOr (kg k) h ad z7) rfl rfl rfl rfl (by decide) rfl (by rw [ez7]; rfl) rfl (Nat.le_of_ble_eq_true rfl) (Nat.zero_le _) (Nat.zero_le _) rfl dX1_readNumber_58 rfl rfl ?_
          refine x_iconst (v := 1) (pc' := 62) C dX1_readNumber_61 rfl (by decide) ?_
          exact x_zret (b := true) C (Nat.zero_le _) (Nat.zero_le _) dX1_readNumber_62 ⟨by rw [hRES], by rw [hRES]⟩
        · rw [if_pos c6] at hRES
          replace hok := hok.1 c6
          refine x_aload_n (pc' := 46) C dX1_readNumber_45 rfl rfl rfl ?_
          refine x_iload_n (pc' := 47) C dX1_readNumber_46 rfl rfl rfl ?_
          refine x_iload_n (pc' := 48) C dX1_readNumber_47 rfl rfl rfl ?_
          obtain ⟨hn8, hok⟩ := hok
          obtain ⟨z9, ez9⟩ : ∃ z, z = (f_X1_readMoreDigits z5 (f_X1_digitAt z1.2 (z1.2.1 2)) a2) := ⟨_, rfl⟩
          replace hRES := bd hRES z9 ez9
          replace hok := bdP hok z9 ez9
          have hc := c_X1_readMoreDigits (kl k) (kg k) h ad z5 (f_X1_digitAt z1.2 (z1.2.1 2)) a2 hn8
          rw [← ez9] at hc
          refine x_WV (st := []) (st2 := [.int z9.1]) (pc' := 51) C B hc cw_X1_106 ok_X1_readMoreDigits rfl (by decide) 0 rfl rfl [0, 1, 2, 3, 4, 5] [] [0, 1, 2, 3, 4, 5] (wOr (kg k) h ad z9.2) rfl rfl rfl rfl (by decide) rfl rfl rfl (Nat.le_of_ble_eq_true rfl) (Nat.zero_le _) (Nat.zero_le _) rfl dX1_readNumber_48 rfl rfl ?_
          refine x_istore_n (pc' := 52) (L' := [some (.ref h), some (.ref (ad 7)), some (.int a2), some (.int z9.1)]) C dX1_readNumber_51 rfl rfl (Nat.le_of_ble_eq_true rfl) rfl ?_
          refine x_aload_n (pc' := 53) C dX1_readNumber_52 rfl rfl rfl ?_
          refine x_aload_n (pc' := 54) C dX1_readNumber_53 rfl rfl rfl ?_
          refine x_get (pc' := 57) (v := .int (z9.2.1 3)) C 0 3 inBX1 rfl rfl (by decide) fl_X1_41 rfl rfl dX1_readNumber_54 rfl ?_
          refine x_iload_n (pc' := 58) C dX1_readNumber_57 rfl rfl rfl ?_
          obtain ⟨z10, ez10⟩ : ∃ z, z = (setF z9.2 7 (f_X3_put 16 (z9.2.2 7) (z9.2.1 3) z9.1)) := ⟨_, rfl⟩
          replace hRES := bd hRES z10 ez10
          replace hok := bdP hok z10 ez10
          refine x_WS (st := []) (st2 := []) (pc' := 61) C B (c_X3_put (kl k) (kg k) (ad 7) 16 (z9.2.2 7) (z9.2.1 3) z9.1 (by decide)) cw_X1_56 ok_X3_put (by decide) [5] [0, 1, 2, 3, 4] [0, 1, 2, 3, 4, 5] (wOr (kg k) h ad z10) rfl rfl rfl rfl (by decide) rfl (by rw [ez10]; rfl) rfl (Nat.le_of_ble_eq_true rfl) (Nat.zero_le _) (Nat.zero_le _) rfl dX1_readNumber_58 rfl rfl ?_
          refine x_iconst (v := 1) (pc' := 62) C dX1_readNumber_61 rfl (by decide) ?_
          exact x_zret (b := true) C (Nat.zero_le _) (Nat.zero_le _) dX1_readNumber_62 ⟨by rw [hRES], by rw [hRES]⟩
      · rw [if_pos c4] at hRES
        replace hok := hok.1 c4
        refine x_iconst (v := 0) (pc' := 30) C dX1_readNumber_29 rfl (by decide) ?_
        exact x_zret (b := false) C (Nat.zero_le _) (Nat.zero_le _) dX1_readNumber_30 ⟨by rw [hRES], by rw [hRES]⟩
  · rw [if_neg c2] at hRES
    replace hok := hok.2 c2
    refine x_iconst (v := 0) (pc' := 10) C dX1_readNumber_9 rfl (by decide) ?_
    exact x_zret (b := false) C (Nat.zero_le _) (Nat.zero_le _) dX1_readNumber_10 ⟨by rw [hRES], by rw [hRES]⟩

def k_X1_readCells_73 (O_73 : CS) (x1_73 : Int32) : Bool × CS := (bind1 (setF O_73 7 (f_X3_put 16 (O_73.2 7) (O_73.1 3) x1_73)) (fun z3 => (if x1_73 = 0 then (false, z3) else (true, z3))))
def ok_X1_readCells_73 (O_73 : CS) (x1_73 : Int32) : Prop := (bind1 (setF O_73 7 (f_X3_put 16 (O_73.2 7) (O_73.1 3) x1_73)) (fun z3 => ((x1_73 = 0 → True) ∧ (¬ (x1_73 = 0) → True))))
def l_X1_readCells_15 : Nat → CS → Int32 → Int32 → Bool × CS
  | 0, _, _, _ => (false, dfCS)
  | n15 + 1, O_15, x1_15, x2_15 => (if O_15.1 2 < O_15.1 1 then (if (f_X1_digitAt O_15 (O_15.1 2)) < x2_15 then (k_X1_readCells_73 O_15 x1_15) else (if (f_X1_digitAt O_15 (O_15.1 2)) < 8 then (bind1 (setI O_15 2 (O_15.1 2 + 1)) (fun z8 => (l_X1_readCells_15 n15 z8 (x1_15 ||| (f_X4_of (f_X1_digitAt O_15 (O_15.1 2)))) ((f_X1_digitAt O_15 (O_15.1 2)) + 1)))) else (k_X1_readCells_73 O_15 x1_15))) else (k_X1_readCells_73 O_15 x1_15))
def ol_X1_readCells_15 : Nat → CS → Int32 → Int32 → Prop
  | 0, _, _, _ => False
  | n15 + 1, O_15, x1_15, x2_15 => ((O_15.1 2 < O_15.1 1 → (((f_X1_digitAt O_15 (O_15.1 2)) < x2_15 → (ok_X1_readCells_73 O_15 x1_15)) ∧ (¬ (f_X1_digitAt O_15 (O_15.1 2)) < x2_15 → (((f_X1_digitAt O_15 (O_15.1 2)) < 8 → (bind1 (setI O_15 2 (O_15.1 2 + 1)) (fun z8 => (ol_X1_readCells_15 n15 z8 (x1_15 ||| (f_X4_of (f_X1_digitAt O_15 (O_15.1 2)))) ((f_X1_digitAt O_15 (O_15.1 2)) + 1))))) ∧ (¬ (f_X1_digitAt O_15 (O_15.1 2)) < 8 → (ok_X1_readCells_73 O_15 x1_15)))))) ∧ (¬ (O_15.1 2 < O_15.1 1) → (ok_X1_readCells_73 O_15 x1_15)))
def f_X1_readCells (O : CS) : Bool × CS := (bind1 (f_X1_readSign O 32) (fun z1 => (if z1.1 = true then (l_X1_readCells_15 10 z1.2 0 0) else (false, z1.2))))
def o_X1_readCells (O : CS) : Prop := (bind1 (f_X1_readSign O 32) (fun z1 => ((z1.1 = true → (ol_X1_readCells_15 10 z1.2 0 0)) ∧ (¬ (z1.1 = true) → True))))
set_option maxRecDepth 100000 in
set_option maxHeartbeats 8000000 in
theorem c_X1_readCells (l : Launch) (g : GT) (h : Nat) (ad : Nat → Nat) (O : CS) (hok : o_X1_readCells O) : CW l yX1_readCells (.code yX1_readCells cX1_readCells 4 (some .boolean)) 2 g [.ref h] (wOr g h ad O) (some (.int (bI (f_X1_readCells O).1))) (wOr g h ad (f_X1_readCells O).2) := by
  obtain ⟨RES, hRES⟩ : ∃ z, z = (f_X1_readCells O) := ⟨_, rfl⟩
  rw [← hRES]
  unfold f_X1_readCells at hRES
  unfold o_X1_readCells at hok
  refine CWx.of (nL := 4) (ret := (some .boolean)) (own := RX1) (cc := cX1_readCells) rfl (by decide) rfl (List.forall_mem_cons.mpr ⟨rfl, (fun _ h => absurd h List.not_mem_nil)⟩) (Nat.le_of_ble_eq_true rfl) ?_
  intro k C B hin hkl hkg
  subst hkl; subst hkg
  refine x_loc2 (L' := [some (.ref h), none, none, none]) rfl ?_
  refine x_aload_n (pc' := 1) C dX1_readCells_0 rfl rfl rfl ?_
  refine x_bipush (v := 32) (pc' := 3) C dX1_readCells_1 rfl (by decide) ?_
  obtain ⟨z1, ez1⟩ : ∃ z, z = (f_X1_readSign O 32) := ⟨_, rfl⟩
  replace hRES := bd hRES z1 ez1
  replace hok := bdP hok z1 ez1
  have hc := c_X1_readSign (kl k) (kg k) h ad O 32
  rw [← ez1] at hc
  refine x_WV (st := []) (st2 := [.int (bI z1.1)]) (pc' := 6) C B hc cw_X1_48 ok_X1_readSign rfl (by decide) 0 rfl rfl [0, 1, 2, 3, 4, 5] [] [0, 1, 2, 3, 4, 5] (wOr (kg k) h ad z1.2) rfl rfl rfl rfl (by decide) rfl rfl rfl (Nat.le_of_ble_eq_true rfl) (Nat.zero_le _) (Nat.zero_le _) rfl dX1_readCells_3 rfl rfl ?_
  refine x_ifB_ne (tgt := 11) (pc' := 9) C dX1_readCells_6 (by decide) rfl (fun c2 => ?_) (fun c2 => ?_)
  · rw [if_pos c2] at hRES
    replace hok := hok.1 c2
    refine x_iconst (v := 0) (pc' := 12) C dX1_readCells_11 rfl (by decide) ?_
    refine x_istore_n (pc' := 13) (L' := [some (.ref h), some (.int 0), none, none]) C dX1_readCells_12 rfl rfl (Nat.le_of_ble_eq_true rfl) rfl ?_
    refine x_iconst (v := 0) (pc' := 14) C dX1_readCells_13 rfl (by decide) ?_
    refine x_istore_n (pc' := 15) (L' := [some (.ref h), some (.int 0), some (.int 0), none]) C dX1_readCells_14 rfl rfl (Nat.le_of_ble_eq_true rfl) rfl ?_
    have cont73 : ∀ (O_73 : CS) (x1_73 : Int32), RES = k_X1_readCells_73 O_73 x1_73 → ok_X1_readCells_73 O_73 x1_73 → X k 0 0 (wOr (kg k) h ad O_73) 73 [some (.ref h), some (.int x1_73), none, none] [] := by
      intro O_73 x1_73 hRES hok
      unfold k_X1_readCells_73 at hRES
      unfold ok_X1_readCells_73 at hok
      refine x_aload_n (pc' := 74) C dX1_readCells_73 rfl rfl rfl ?_
      refine x_get (pc' := 77) (v := .ref (ad 7)) C 0 7 inBX1 rfl rfl (by decide) fl_X1_25 rfl rfl dX1_readCells_74 rfl ?_
      refine x_aload_n (pc' := 78) C dX1_readCells_77 rfl rfl rfl ?_
      refine x_get (pc' := 81) (v := .int (O_73.1 3)) C 0 3 inBX1 rfl rfl (by decide) fl_X1_41 rfl rfl dX1_readCells_78 rfl ?_
      refine x_iload_n (pc' := 82) C dX1_readCells_81 rfl rfl rfl ?_
      obtain ⟨z3, ez3⟩ : ∃ z, z = (setF O_73 7 (f_X3_put 16 (O_73.2 7) (O_73.1 3) x1_73)) := ⟨_, rfl⟩
      replace hRES := bd hRES z3 ez3
      replace hok := bdP hok z3 ez3
      refine x_WS (st := []) (st2 := []) (pc' := 85) C B (c_X3_put (kl k) (kg k) (ad 7) 16 (O_73.2 7) (O_73.1 3) x1_73 (by decide)) cw_X1_56 ok_X3_put (by decide) [5] [0, 1, 2, 3, 4] [0, 1, 2, 3, 4, 5] (wOr (kg k) h ad z3) rfl rfl rfl rfl (by decide) rfl (by rw [ez3]; rfl) rfl (Nat.le_of_ble_eq_true rfl) (Nat.zero_le _) (Nat.zero_le _) rfl dX1_readCells_82 rfl rfl ?_
      refine x_iload_n (pc' := 86) C dX1_readCells_85 rfl rfl rfl ?_
      refine x_if_eq (tgt := 93) (pc' := 89) C dX1_readCells_86 (by decide) rfl (fun c4 => ?_) (fun c4 => ?_)
      · rw [if_pos c4] at hRES
        replace hok := hok.1 c4
        refine x_iconst (v := 0) (pc' := 94) C dX1_readCells_93 rfl (by decide) ?_
        exact x_zret (b := false) C (Nat.zero_le _) (Nat.zero_le _) dX1_readCells_94 ⟨by rw [hRES], by rw [hRES]⟩
      · rw [if_neg c4] at hRES
        replace hok := hok.2 c4
        refine x_iconst (v := 1) (pc' := 90) C dX1_readCells_89 rfl (by decide) ?_
        refine x_goto (tgt := 94) C dX1_readCells_90 (by decide) ?_
        exact x_zret (b := true) C (Nat.zero_le _) (Nat.zero_le _) dX1_readCells_94 ⟨by rw [hRES], by rw [hRES]⟩
    have loop15 : ∀ (n15 : Nat) (O_15 : CS) (x1_15 : Int32) (x2_15 : Int32), RES = l_X1_readCells_15 n15 O_15 x1_15 x2_15 → ol_X1_readCells_15 n15 O_15 x1_15 x2_15 → X k 0 0 (wOr (kg k) h ad O_15) 15 [some (.ref h), some (.int x1_15), some (.int x2_15), none] [] := by
      intro n15
      induction n15 with
      | zero =>
        intro O_15 x1_15 x2_15 hRES hok
        exact (show False from hok).elim
      | succ n15 ih15 =>
        intro O_15 x1_15 x2_15 hRES hok
        rw [l_X1_readCells_15] at hRES
        rw [ol_X1_readCells_15] at hok
        refine x_aload_n (pc' := 16) C dX1_readCells_15 rfl rfl rfl ?_
        refine x_get (pc' := 19) (v := .int (O_15.1 2)) C 0 2 inBX1 rfl rfl (by decide) fl_X1_38 rfl rfl dX1_readCells_16 rfl ?_
        refine x_aload_n (pc' := 20) C dX1_readCells_19 rfl rfl rfl ?_
        refine x_get (pc' := 23) (v := .int (O_15.1 1)) C 0 1 inBX1 rfl rfl (by decide) fl_X1_28 rfl rfl dX1_readCells_20 rfl ?_
        refine x_icmp_ge (tgt := 73) (pc' := 26) C dX1_readCells_23 (by decide) rfl (fun c5 => ?_) (fun c5 => ?_)
        · rw [if_neg c5] at hRES
          replace hok := hok.2 c5
          refine x_forget (L' := [some (.ref h), some (.int x1_15), none, none]) [0, 1] rfl rfl ?_
          exact cont73 O_15 x1_15 hRES hok
        · rw [if_pos c5] at hRES
          replace hok := hok.1 c5
          refine x_aload_n (pc' := 27) C dX1_readCells_26 rfl rfl rfl ?_
          refine x_aload_n (pc' := 28) C dX1_readCells_27 rfl rfl rfl ?_
          refine x_get (pc' := 31) (v := .int (O_15.1 2)) C 0 2 inBX1 rfl rfl (by decide) fl_X1_38 rfl rfl dX1_readCells_28 rfl ?_
          refine x_RV (st := []) (st2 := [.int (f_X1_digitAt O_15 (O_15.1 2))]) (pc' := 34) C (c_X1_digitAt (kl k) (kg k) h ad O_15 (O_15.1 2)) cw_X1_103 ok_X1_digitAt rfl (by decide) 0 rfl rfl [0, 1, 2, 3, 4, 5] rfl rfl rfl (Nat.le_of_ble_eq_true rfl) (Nat.zero_le _) (Nat.zero_le _) rfl dX1_readCells_31 rfl rfl ?_
          refine x_istore_n (pc' := 35) (L' := [some (.ref h), some (.int x1_15), some (.int x2_15), some (.int (f_X1_digitAt O_15 (O_15.1 2)))]) C dX1_readCells_34 rfl rfl (Nat.le_of_ble_eq_true rfl) rfl ?_
          refine x_iload_n (pc' := 36) C dX1_readCells_35 rfl rfl rfl ?_
          refine x_iload_n (pc' := 37) C dX1_readCells_36 rfl rfl rfl ?_
          refine x_icmp_lt (tgt := 73) (pc' := 40) C dX1_readCells_37 (by decide) rfl (fun c6 => ?_) (fun c6 => ?_)
          · rw [if_pos c6] at hRES
            replace hok := hok.1 c6
            refine x_forget (L' := [some (.ref h), some (.int x1_15), none, none]) [0, 1] rfl rfl ?_
            exact cont73 O_15 x1_15 hRES hok
          · rw [if_neg c6] at hRES
            replace hok := hok.2 c6
            refine x_iload_n (pc' := 41) C dX1_readCells_40 rfl rfl rfl ?_
            refine x_bipush (v := 8) (pc' := 43) C dX1_readCells_41 rfl (by decide) ?_
            refine x_icmp_lt (tgt := 49) (pc' := 46) C dX1_readCells_43 (by decide) rfl (fun c7 => ?_) (fun c7 => ?_)
            · rw [if_pos c7] at hRES
              replace hok := hok.1 c7
              refine x_iload_n (pc' := 50) C dX1_readCells_49 rfl rfl rfl ?_
              refine x_iload_n (pc' := 51) C dX1_readCells_50 rfl rfl rfl ?_
              refine x_RS (st := [.int x1_15]) (st2 := [.int (f_X4_of (f_X1_digitAt O_15 (O_15.1 2))), .int x1_15]) (pc' := 54) C (c_X4_of (kl k) (kg k) (f_X1_digitAt O_15 (O_15.1 2))) cw_X1_109 ok_X4_of (by decide) [] rfl rfl rfl (Nat.le_of_ble_eq_true rfl) (Nat.zero_le _) (Nat.zero_le _) rfl dX1_readCells_51 rfl rfl ?_
              refine x_ior (pc' := 55) (v := (x1_15 ||| (f_X4_of (f_X1_digitAt O_15 (O_15.1 2))))) C dX1_readCells_54 rfl rfl ?_
              refine x_istore_n (pc' := 56) (L' := [some (.ref h), some (.int (x1_15 ||| (f_X4_of (f_X1_digitAt O_15 (O_15.1 2))))), some (.int x2_15), some (.int (f_X1_digitAt O_15 (O_15.1 2)))]) C dX1_readCells_55 rfl rfl (Nat.le_of_ble_eq_true rfl) rfl ?_
              refine x_iload_n (pc' := 57) C dX1_readCells_56 rfl rfl rfl ?_
              refine x_iconst (v := 1) (pc' := 58) C dX1_readCells_57 rfl (by decide) ?_
              refine x_iadd (pc' := 59) (v := ((f_X1_digitAt O_15 (O_15.1 2)) + 1)) C dX1_readCells_58 rfl rfl ?_
              refine x_istore_n (pc' := 60) (L' := [some (.ref h), some (.int (x1_15 ||| (f_X4_of (f_X1_digitAt O_15 (O_15.1 2))))), some (.int ((f_X1_digitAt O_15 (O_15.1 2)) + 1)), some (.int (f_X1_digitAt O_15 (O_15.1 2)))]) C dX1_readCells_59 rfl rfl (Nat.le_of_ble_eq_true rfl) rfl ?_
              refine x_aload_n (pc' := 61) C dX1_readCells_60 rfl rfl rfl ?_
              refine x_dup (pc' := 62) C dX1_readCells_61 rfl rfl ?_
              refine x_get (pc' := 65) (v := .int (O_15.1 2)) C 0 2 inBX1 rfl rfl (by decide) fl_X1_38 rfl rfl dX1_readCells_62 rfl ?_
              refine x_iconst (v := 1) (pc' := 66) C dX1_readCells_65 rfl (by decide) ?_
              refine x_iadd (pc' := 67) (v := (O_15.1 2 + 1)) C dX1_readCells_66 rfl rfl ?_
              obtain ⟨z8, ez8⟩ : ∃ z, z = (setI O_15 2 (O_15.1 2 + 1)) := ⟨_, rfl⟩
              replace hRES := bd hRES z8 ez8
              replace hok := bdP hok z8 ez8
              refine x_put (pc' := 70) (w' := wOr (kg k) h ad z8) (ty := .int) C B 0 2 inBX1 tyX1 tyX1_ok nmX1 rfl rfl (by decide) fl_X1_38 rfl rfl rfl rfl rfl (Nat.le_of_ble_eq_true rfl) dX1_readCells_67 rfl (by rw [ez8]; rfl) ?_
              refine x_goto (tgt := 15) C dX1_readCells_70 (by decide) ?_
              refine x_forget (L' := [some (.ref h), some (.int (x1_15 ||| (f_X4_of (f_X1_digitAt O_15 (O_15.1 2))))), some (.int ((f_X1_digitAt O_15 (O_15.1 2)) + 1)), none]) [0, 1, 2] rfl rfl ?_
              exact ih15 z8 (x1_15 ||| (f_X4_of (f_X1_digitAt O_15 (O_15.1 2)))) ((f_X1_digitAt O_15 (O_15.1 2)) + 1) hRES hok
            · rw [if_neg c7] at hRES
              replace hok := hok.2 c7
              refine x_goto (tgt := 73) C dX1_readCells_46 (by decide) ?_
              refine x_forget (L' := [some (.ref h), some (.int x1_15), none, none]) [0, 1] rfl rfl ?_
              exact cont73 O_15 x1_15 hRES hok
    exact loop15 10 z1.2 0 0 hRES hok
  · rw [if_neg c2] at hRES
    replace hok := hok.2 c2
    refine x_iconst (v := 0) (pc' := 10) C dX1_readCells_9 rfl (by decide) ?_
    exact x_zret (b := false) C (Nat.zero_le _) (Nat.zero_le _) dX1_readCells_10 ⟨by rw [hRES], by rw [hRES]⟩

def f_X1_readOrder (O : CS) : Bool × CS := (bind1 (f_X1_readWord O) (fun z2 => (bind1 (setF z2.2 4 (f_X3_put 16 (z2.2.2 4) (z2.2.1 3) z2.1)) (fun z3 => (if z2.1 = (-1) then (false, z3) else (if z2.1 = 0 then (bind1 (f_X1_readNumber5 z3 23) (fun z7 => (if z7.1 = true then (bind1 (f_X1_readNumber6 z7.2 7) (fun z10 => (if z10.1 = true then (bind1 (f_X1_readNumber7 z10.2 9) (fun z13 => (if z13.1 = true then (true, z13.2) else (false, z13.2)))) else (false, z10.2)))) else (false, z7.2)))) else (if z2.1 = 1 then (bind1 (f_X1_readNumber5 z3 23) (fun z17 => (if z17.1 = true then (bind1 (f_X1_readNumber6 z17.2 23) (fun z20 => (if z20.1 = true then (bind1 (f_X1_readCells z20.2) (fun z23 => (if z23.1 = true then (true, z23.2) else (false, z23.2)))) else (false, z20.2)))) else (false, z17.2)))) else (bind1 (f_X1_readNumber5 z3 23) (fun z26 => (z26.1, z26.2))))))))))
def o_X1_readOrder (O : CS) : Prop := ((o_X1_readWord O) ∧ (bind1 (f_X1_readWord O) (fun z2 => (bind1 (setF z2.2 4 (f_X3_put 16 (z2.2.2 4) (z2.2.1 3) z2.1)) (fun z3 => ((z2.1 = (-1) → True) ∧ (¬ (z2.1 = (-1)) → ((z2.1 = 0 → ((o_X1_readNumber5 z3 23) ∧ (bind1 (f_X1_readNumber5 z3 23) (fun z7 => ((z7.1 = true → ((o_X1_readNumber6 z7.2 7) ∧ (bind1 (f_X1_readNumber6 z7.2 7) (fun z10 => ((z10.1 = true → ((o_X1_readNumber7 z10.2 9) ∧ (bind1 (f_X1_readNumber7 z10.2 9) (fun z13 => ((z13.1 = true → True) ∧ (¬ (z13.1 = true) → True)))))) ∧ (¬ (z10.1 = true) → True)))))) ∧ (¬ (z7.1 = true) → True)))))) ∧ (¬ (z2.1 = 0) → ((z2.1 = 1 → ((o_X1_readNumber5 z3 23) ∧ (bind1 (f_X1_readNumber5 z3 23) (fun z17 => ((z17.1 = true → ((o_X1_readNumber6 z17.2 23) ∧ (bind1 (f_X1_readNumber6 z17.2 23) (fun z20 => ((z20.1 = true → ((o_X1_readCells z20.2) ∧ (bind1 (f_X1_readCells z20.2) (fun z23 => ((z23.1 = true → True) ∧ (¬ (z23.1 = true) → True)))))) ∧ (¬ (z20.1 = true) → True)))))) ∧ (¬ (z17.1 = true) → True)))))) ∧ (¬ (z2.1 = 1) → ((o_X1_readNumber5 z3 23) ∧ (bind1 (f_X1_readNumber5 z3 23) (fun z26 => True))))))))))))))
set_option maxRecDepth 100000 in
set_option maxHeartbeats 8000000 in
theorem c_X1_readOrder (l : Launch) (g : GT) (h : Nat) (ad : Nat → Nat) (O : CS) (hok : o_X1_readOrder O) : CW l yX1_readOrder (.code yX1_readOrder cX1_readOrder 2 (some .boolean)) 6 g [.ref h] (wOr g h ad O) (some (.int (bI (f_X1_readOrder O).1))) (wOr g h ad (f_X1_readOrder O).2) := by
  obtain ⟨RES, hRES⟩ : ∃ z, z = (f_X1_readOrder O) := ⟨_, rfl⟩
  rw [← hRES]
  unfold f_X1_readOrder at hRES
  unfold o_X1_readOrder at hok
  refine CWx.of (nL := 2) (ret := (some .boolean)) (own := RX1) (cc := cX1_readOrder) rfl (by decide) rfl (List.forall_mem_cons.mpr ⟨rfl, (fun _ h => absurd h List.not_mem_nil)⟩) (Nat.le_of_ble_eq_true rfl) ?_
  intro k C B hin hkl hkg
  subst hkl; subst hkg
  refine x_loc2 (L' := [some (.ref h), none]) rfl ?_
  refine x_aload_n (pc' := 1) C dX1_readOrder_0 rfl rfl rfl ?_
  obtain ⟨hn1, hok⟩ := hok
  obtain ⟨z2, ez2⟩ : ∃ z, z = (f_X1_readWord O) := ⟨_, rfl⟩
  replace hRES := bd hRES z2 ez2
  replace hok := bdP hok z2 ez2
  have hc := c_X1_readWord (kl k) (kg k) h ad O hn1
  rw [← ez2] at hc
  refine x_WV (st := []) (st2 := [.int z2.1]) (pc' := 4) C B hc cw_X1_52 ok_X1_readWord rfl (by decide) 0 rfl rfl [0, 1, 2, 3, 4, 5] [] [0, 1, 2, 3, 4, 5] (wOr (kg k) h ad z2.2) rfl rfl rfl rfl (by decide) rfl rfl rfl (Nat.le_of_ble_eq_true rfl) (Nat.zero_le _) (Nat.zero_le _) rfl dX1_readOrder_1 rfl rfl ?_
  refine x_istore_n (pc' := 5) (L' := [some (.ref h), some (.int z2.1)]) C dX1_readOrder_4 rfl rfl (Nat.le_of_ble_eq_true rfl) rfl ?_
  refine x_aload_n (pc' := 6) C dX1_readOrder_5 rfl rfl rfl ?_
  refine x_get (pc' := 9) (v := .ref (ad 4)) C 0 4 inBX1 rfl rfl (by decide) fl_X1_15 rfl rfl dX1_readOrder_6 rfl ?_
  refine x_aload_n (pc' := 10) C dX1_readOrder_9 rfl rfl rfl ?_
  refine x_get (pc' := 13) (v := .int (z2.2.1 3)) C 0 3 inBX1 rfl rfl (by decide) fl_X1_41 rfl rfl dX1_readOrder_10 rfl ?_
  refine x_iload_n (pc' := 14) C dX1_readOrder_13 rfl rfl rfl ?_
  obtain ⟨z3, ez3⟩ : ∃ z, z = (setF z2.2 4 (f_X3_put 16 (z2.2.2 4) (z2.2.1 3) z2.1)) := ⟨_, rfl⟩
  replace hRES := bd hRES z3 ez3
  replace hok := bdP hok z3 ez3
  refine x_WS (st := []) (st2 := []) (pc' := 17) C B (c_X3_put (kl k) (kg k) (ad 4) 16 (z2.2.2 4) (z2.2.1 3) z2.1 (by decide)) cw_X1_56 ok_X3_put (by decide) [2] [0, 1, 3, 4, 5] [0, 1, 5, 2, 3, 4] (wOr (kg k) h ad z3) rfl rfl rfl rfl (by decide) rfl (by rw [ez3]; rfl) rfl (Nat.le_of_ble_eq_true rfl) (Nat.zero_le _) (Nat.zero_le _) rfl dX1_readOrder_14 rfl rfl ?_
  refine x_iload_n (pc' := 18) C dX1_readOrder_17 rfl rfl rfl ?_
  by_cases c4 : z2.1 = (-1)
  · rw [if_pos c4] at hRES
    replace hok := hok.1 c4
    refine x_tabIn (off := 26) (tgt := 44) C (-1) dX1_readOrder_18 (by rw [c4]; decide) (by decide) (by decide) rfl (by decide) ?_
    refine x_iconst (v := 0) (pc' := 45) C dX1_readOrder_44 rfl (by decide) ?_
    exact x_zret (b := false) C (Nat.zero_le _) (Nat.zero_le _) dX1_readOrder_45 ⟨by rw [hRES], by rw [hRES]⟩
  · rw [if_neg c4] at hRES
    replace hok := hok.2 c4
    by_cases c5 : z2.1 = 0
    · rw [if_pos c5] at hRES
      replace hok := hok.1 c5
      refine x_tabIn (off := 28) (tgt := 46) C (0) dX1_readOrder_18 (by rw [c5]; decide) (by decide) (by decide) rfl (by decide) ?_
      refine x_aload_n (pc' := 47) C dX1_readOrder_46 rfl rfl rfl ?_
      refine x_aload_n (pc' := 48) C dX1_readOrder_47 rfl rfl rfl ?_
      refine x_get (pc' := 51) (v := .ref (ad 5)) C 0 5 inBX1 rfl rfl (by decide) fl_X1_19 rfl rfl dX1_readOrder_48 rfl ?_
      refine x_bipush (v := 23) (pc' := 53) C dX1_readOrder_51 rfl (by decide) ?_
      obtain ⟨hn6, hok⟩ := hok
      obtain ⟨z7, ez7⟩ : ∃ z, z = (f_X1_readNumber5 z3 23) := ⟨_, rfl⟩
      replace hRES := bd hRES z7 ez7
      replace hok := bdP hok z7 ez7
      have hc := c_X1_readNumber5 (kl k) (kg k) h ad z3 23 hn6
      rw [← ez7] at hc
      refine x_WV (st := []) (st2 := [.int (bI z7.1)]) (pc' := 56) C B hc cw_X1_60 ok_X1_readNumber rfl (by decide) 0 rfl rfl [0, 1, 2, 3, 4, 5] [] [0, 1, 2, 3, 4, 5] (wOr (kg k) h ad z7.2) rfl rfl rfl rfl (by decide) rfl rfl rfl (Nat.le_of_ble_eq_true rfl) (Nat.zero_le _) (Nat.zero_le _) rfl dX1_readOrder_53 rfl rfl ?_
      refine x_ifB_eq (tgt := 89) (pc' := 59) C dX1_readOrder_56 (by decide) rfl (fun c8 => ?_) (fun c8 => ?_)
      · rw [if_neg c8] at hRES
        replace hok := hok.2 c8
        refine x_iconst (v := 0) (pc' := 90) C dX1_readOrder_89 rfl (by decide) ?_
        exact x_zret (b := false) C (Nat.zero_le _) (Nat.zero_le _) dX1_readOrder_90 ⟨by rw [hRES], by rw [hRES]⟩
      · rw [if_pos c8] at hRES
        replace hok := hok.1 c8
        refine x_aload_n (pc' := 60) C dX1_readOrder_59 rfl rfl rfl ?_
        refine x_aload_n (pc' := 61) C dX1_readOrder_60 rfl rfl rfl ?_
        refine x_get (pc' := 64) (v := .ref (ad 6)) C 0 6 inBX1 rfl rfl (by decide) fl_X1_22 rfl rfl dX1_readOrder_61 rfl ?_
        refine x_bipush (v := 7) (pc' := 66) C dX1_readOrder_64 rfl (by decide) ?_
        obtain ⟨hn9, hok⟩ := hok
        obtain ⟨z10, ez10⟩ : ∃ z, z = (f_X1_readNumber6 z7.2 7) := ⟨_, rfl⟩
        replace hRES := bd hRES z10 ez10
        replace hok := bdP hok z10 ez10
        have hc := c_X1_readNumber6 (kl k) (kg k) h ad z7.2 7 hn9
        rw [← ez10] at hc
        refine x_WV (st := []) (st2 := [.int (bI z10.1)]) (pc' := 69) C B hc cw_X1_60 ok_X1_readNumber rfl (by decide) 0 rfl rfl [0, 1, 2, 3, 4, 5] [] [0, 1, 2, 3, 4, 5] (wOr (kg k) h ad z10.2) rfl rfl rfl rfl (by decide) rfl rfl rfl (Nat.le_of_ble_eq_true rfl) (Nat.zero_le _) (Nat.zero_le _) rfl dX1_readOrder_66 rfl rfl ?_
        refine x_ifB_eq (tgt := 89) (pc' := 72) C dX1_readOrder_69 (by decide) rfl (fun c11 => ?_) (fun c11 => ?_)
        · rw [if_neg c11] at hRES
          replace hok := hok.2 c11
          refine x_iconst (v := 0) (pc' := 90) C dX1_readOrder_89 rfl (by decide) ?_
          exact x_zret (b := false) C (Nat.zero_le _) (Nat.zero_le _) dX1_readOrder_90 ⟨by rw [hRES], by rw [hRES]⟩
        · rw [if_pos c11] at hRES
          replace hok := hok.1 c11
          refine x_aload_n (pc' := 73) C dX1_readOrder_72 rfl rfl rfl ?_
          refine x_aload_n (pc' := 74) C dX1_readOrder_73 rfl rfl rfl ?_
          refine x_get (pc' := 77) (v := .ref (ad 7)) C 0 7 inBX1 rfl rfl (by decide) fl_X1_25 rfl rfl dX1_readOrder_74 rfl ?_
          refine x_bipush (v := 9) (pc' := 79) C dX1_readOrder_77 rfl (by decide) ?_
          obtain ⟨hn12, hok⟩ := hok
          obtain ⟨z13, ez13⟩ : ∃ z, z = (f_X1_readNumber7 z10.2 9) := ⟨_, rfl⟩
          replace hRES := bd hRES z13 ez13
          replace hok := bdP hok z13 ez13
          have hc := c_X1_readNumber7 (kl k) (kg k) h ad z10.2 9 hn12
          rw [← ez13] at hc
          refine x_WV (st := []) (st2 := [.int (bI z13.1)]) (pc' := 82) C B hc cw_X1_60 ok_X1_readNumber rfl (by decide) 0 rfl rfl [0, 1, 2, 3, 4, 5] [] [0, 1, 2, 3, 4, 5] (wOr (kg k) h ad z13.2) rfl rfl rfl rfl (by decide) rfl rfl rfl (Nat.le_of_ble_eq_true rfl) (Nat.zero_le _) (Nat.zero_le _) rfl dX1_readOrder_79 rfl rfl ?_
          refine x_ifB_eq (tgt := 89) (pc' := 85) C dX1_readOrder_82 (by decide) rfl (fun c14 => ?_) (fun c14 => ?_)
          · rw [if_neg c14] at hRES
            replace hok := hok.2 c14
            refine x_iconst (v := 0) (pc' := 90) C dX1_readOrder_89 rfl (by decide) ?_
            exact x_zret (b := false) C (Nat.zero_le _) (Nat.zero_le _) dX1_readOrder_90 ⟨by rw [hRES], by rw [hRES]⟩
          · rw [if_pos c14] at hRES
            replace hok := hok.1 c14
            refine x_iconst (v := 1) (pc' := 86) C dX1_readOrder_85 rfl (by decide) ?_
            refine x_goto (tgt := 90) C dX1_readOrder_86 (by decide) ?_
            exact x_zret (b := true) C (Nat.zero_le _) (Nat.zero_le _) dX1_readOrder_90 ⟨by rw [hRES], by rw [hRES]⟩
    · rw [if_neg c5] at hRES
      replace hok := hok.2 c5
      by_cases c15 : z2.1 = 1
      · rw [if_pos c15] at hRES
        replace hok := hok.1 c15
        refine x_tabIn (off := 73) (tgt := 91) C (1) dX1_readOrder_18 (by rw [c15]; decide) (by decide) (by decide) rfl (by decide) ?_
        refine x_aload_n (pc' := 92) C dX1_readOrder_91 rfl rfl rfl ?_
        refine x_aload_n (pc' := 93) C dX1_readOrder_92 rfl rfl rfl ?_
        refine x_get (pc' := 96) (v := .ref (ad 5)) C 0 5 inBX1 rfl rfl (by decide) fl_X1_19 rfl rfl dX1_readOrder_93 rfl ?_
        refine x_bipush (v := 23) (pc' := 98) C dX1_readOrder_96 rfl (by decide) ?_
        obtain ⟨hn16, hok⟩ := hok
        obtain ⟨z17, ez17⟩ : ∃ z, z = (f_X1_readNumber5 z3 23) := ⟨_, rfl⟩
        replace hRES := bd hRES z17 ez17
        replace hok := bdP hok z17 ez17
        have hc := c_X1_readNumber5 (kl k) (kg k) h ad z3 23 hn16
        rw [← ez17] at hc
        refine x_WV (st := []) (st2 := [.int (bI z17.1)]) (pc' := 101) C B hc cw_X1_60 ok_X1_readNumber rfl (by decide) 0 rfl rfl [0, 1, 2, 3, 4, 5] [] [0, 1, 2, 3, 4, 5] (wOr (kg k) h ad z17.2) rfl rfl rfl rfl (by decide) rfl rfl rfl (Nat.le_of_ble_eq_true rfl) (Nat.zero_le _) (Nat.zero_le _) rfl dX1_readOrder_98 rfl rfl ?_
        refine x_ifB_eq (tgt := 128) (pc' := 104) C dX1_readOrder_101 (by decide) rfl (fun c18 => ?_) (fun c18 => ?_)
        · rw [if_neg c18] at hRES
          replace hok := hok.2 c18
          refine x_iconst (v := 0) (pc' := 129) C dX1_readOrder_128 rfl (by decide) ?_
          exact x_zret (b := false) C (Nat.zero_le _) (Nat.zero_le _) dX1_readOrder_129 ⟨by rw [hRES], by rw [hRES]⟩
        · rw [if_pos c18] at hRES
          replace hok := hok.1 c18
          refine x_aload_n (pc' := 105) C dX1_readOrder_104 rfl rfl rfl ?_
          refine x_aload_n (pc' := 106) C dX1_readOrder_105 rfl rfl rfl ?_
          refine x_get (pc' := 109) (v := .ref (ad 6)) C 0 6 inBX1 rfl rfl (by decide) fl_X1_22 rfl rfl dX1_readOrder_106 rfl ?_
          refine x_bipush (v := 23) (pc' := 111) C dX1_readOrder_109 rfl (by decide) ?_
          obtain ⟨hn19, hok⟩ := hok
          obtain ⟨z20, ez20⟩ : ∃ z, z = (f_X1_readNumber6 z17.2 23) := ⟨_, rfl⟩
          replace hRES := bd hRES z20 ez20
          replace hok := bdP hok z20 ez20
          have hc := c_X1_readNumber6 (kl k) (kg k) h ad z17.2 23 hn19
          rw [← ez20] at hc
          refine x_WV (st := []) (st2 := [.int (bI z20.1)]) (pc' := 114) C B hc cw_X1_60 ok_X1_readNumber rfl (by decide) 0 rfl rfl [0, 1, 2, 3, 4, 5] [] [0, 1, 2, 3, 4, 5] (wOr (kg k) h ad z20.2) rfl rfl rfl rfl (by decide) rfl rfl rfl (Nat.le_of_ble_eq_true rfl) (Nat.zero_le _) (Nat.zero_le _) rfl dX1_readOrder_111 rfl rfl ?_
          refine x_ifB_eq (tgt := 128) (pc' := 117) C dX1_readOrder_114 (by decide) rfl (fun c21 => ?_) (fun c21 => ?_)
          · rw [if_neg c21] at hRES
            replace hok := hok.2 c21
            refine x_iconst (v := 0) (pc' := 129) C dX1_readOrder_128 rfl (by decide) ?_
            exact x_zret (b := false) C (Nat.zero_le _) (Nat.zero_le _) dX1_readOrder_129 ⟨by rw [hRES], by rw [hRES]⟩
          · rw [if_pos c21] at hRES
            replace hok := hok.1 c21
            refine x_aload_n (pc' := 118) C dX1_readOrder_117 rfl rfl rfl ?_
            obtain ⟨hn22, hok⟩ := hok
            obtain ⟨z23, ez23⟩ : ∃ z, z = (f_X1_readCells z20.2) := ⟨_, rfl⟩
            replace hRES := bd hRES z23 ez23
            replace hok := bdP hok z23 ez23
            have hc := c_X1_readCells (kl k) (kg k) h ad z20.2 hn22
            rw [← ez23] at hc
            refine x_WV (st := []) (st2 := [.int (bI z23.1)]) (pc' := 121) C B hc cw_X1_64 ok_X1_readCells rfl (by decide) 0 rfl rfl [0, 1, 2, 3, 4, 5] [] [0, 1, 2, 3, 4, 5] (wOr (kg k) h ad z23.2) rfl rfl rfl rfl (by decide) rfl rfl rfl (Nat.le_of_ble_eq_true rfl) (Nat.zero_le _) (Nat.zero_le _) rfl dX1_readOrder_118 rfl rfl ?_
            refine x_ifB_eq (tgt := 128) (pc' := 124) C dX1_readOrder_121 (by decide) rfl (fun c24 => ?_) (fun c24 => ?_)
            · rw [if_neg c24] at hRES
              replace hok := hok.2 c24
              refine x_iconst (v := 0) (pc' := 129) C dX1_readOrder_128 rfl (by decide) ?_
              exact x_zret (b := false) C (Nat.zero_le _) (Nat.zero_le _) dX1_readOrder_129 ⟨by rw [hRES], by rw [hRES]⟩
            · rw [if_pos c24] at hRES
              replace hok := hok.1 c24
              refine x_iconst (v := 1) (pc' := 125) C dX1_readOrder_124 rfl (by decide) ?_
              refine x_goto (tgt := 129) C dX1_readOrder_125 (by decide) ?_
              exact x_zret (b := true) C (Nat.zero_le _) (Nat.zero_le _) dX1_readOrder_129 ⟨by rw [hRES], by rw [hRES]⟩
      · rw [if_neg c15] at hRES
        replace hok := hok.2 c15
        refine x_tabOut (tgt := 130) C dX1_readOrder_18 (by have hc4 := lv_neT (a := -1) c4 (by decide); have hc5 := lv_neT (a := 0) c5 (by decide); have hc15 := lv_neT (a := 1) c15 (by decide); omega) (by decide) ?_
        refine x_aload_n (pc' := 131) C dX1_readOrder_130 rfl rfl rfl ?_
        refine x_aload_n (pc' := 132) C dX1_readOrder_131 rfl rfl rfl ?_
        refine x_get (pc' := 135) (v := .ref (ad 5)) C 0 5 inBX1 rfl rfl (by decide) fl_X1_19 rfl rfl dX1_readOrder_132 rfl ?_
        refine x_bipush (v := 23) (pc' := 137) C dX1_readOrder_135 rfl (by decide) ?_
        obtain ⟨hn25, hok⟩ := hok
        obtain ⟨z26, ez26⟩ : ∃ z, z = (f_X1_readNumber5 z3 23) := ⟨_, rfl⟩
        replace hRES := bd hRES z26 ez26
        replace hok := bdP hok z26 ez26
        have hc := c_X1_readNumber5 (kl k) (kg k) h ad z3 23 hn25
        rw [← ez26] at hc
        refine x_WV (st := []) (st2 := [.int (bI z26.1)]) (pc' := 140) C B hc cw_X1_60 ok_X1_readNumber rfl (by decide) 0 rfl rfl [0, 1, 2, 3, 4, 5] [] [0, 1, 2, 3, 4, 5] (wOr (kg k) h ad z26.2) rfl rfl rfl rfl (by decide) rfl rfl rfl (Nat.le_of_ble_eq_true rfl) (Nat.zero_le _) (Nat.zero_le _) rfl dX1_readOrder_137 rfl rfl ?_
        exact x_zret (b := z26.1) C (Nat.zero_le _) (Nat.zero_le _) dX1_readOrder_140 ⟨by rw [hRES], by rw [hRES]⟩

def k_X1_read_67 (O_67 : CS) : Bool × CS := (false, O_67)
def ok_X1_read_67 (O_67 : CS) : Prop := True
def l_X1_read_12 : Nat → CS → Nat → Bool × CS
  | 0, _, _ => (false, dfCS)
  | n12 + 1, O_12, i1_12 => (if i1_12 < 16 then (bind1 (f_X1_readOrder O_12) (fun z5 => (if z5.1 = true then (bind1 (setI z5.2 3 (z5.2.1 3 + 1)) (fun z7 => (if z7.1 2 < z7.1 1 then (bind1 (f_X1_readSign z7 59) (fun z9 => (if z9.1 = true then (l_X1_read_12 n12 z9.2 (i1_12 + 1)) else (false, z9.2)))) else (true, z7)))) else (false, z5.2)))) else (k_X1_read_67 O_12))
def ol_X1_read_12 : Nat → CS → Nat → Prop
  | 0, _, _ => True
  | n12 + 1, O_12, i1_12 => ((i1_12 < 16 → ((o_X1_readOrder O_12) ∧ (bind1 (f_X1_readOrder O_12) (fun z5 => ((z5.1 = true → (bind1 (setI z5.2 3 (z5.2.1 3 + 1)) (fun z7 => ((z7.1 2 < z7.1 1 → (bind1 (f_X1_readSign z7 59) (fun z9 => ((z9.1 = true → (ol_X1_read_12 n12 z9.2 (i1_12 + 1))) ∧ (¬ (z9.1 = true) → True))))) ∧ (¬ (z7.1 2 < z7.1 1) → True))))) ∧ (¬ (z5.1 = true) → True)))))) ∧ (¬ (i1_12 < 16) → (ok_X1_read_67 O_12)))
def f_X1_read (O : CS) : Bool × CS := (bind1 (setI O 2 0) (fun z1 => (bind1 (setI z1 3 0) (fun z2 => (l_X1_read_12 17 z2 0)))))
def o_X1_read (O : CS) : Prop := (bind1 (setI O 2 0) (fun z1 => (bind1 (setI z1 3 0) (fun z2 => (ol_X1_read_12 17 z2 0)))))
set_option maxRecDepth 100000 in
set_option maxHeartbeats 8000000 in
theorem c_X1_read (l : Launch) (g : GT) (h : Nat) (ad : Nat → Nat) (O : CS) (hok : o_X1_read O) : CW l yX1_read (.code yX1_read cX1_read 2 (some .boolean)) 7 g [.ref h] (wOr g h ad O) (some (.int (bI (f_X1_read O).1))) (wOr g h ad (f_X1_read O).2) := by
  obtain ⟨RES, hRES⟩ : ∃ z, z = (f_X1_read O) := ⟨_, rfl⟩
  rw [← hRES]
  unfold f_X1_read at hRES
  unfold o_X1_read at hok
  refine CWx.of (nL := 2) (ret := (some .boolean)) (own := RX1) (cc := cX1_read) rfl (by decide) rfl (List.forall_mem_cons.mpr ⟨rfl, (fun _ h => absurd h List.not_mem_nil)⟩) (Nat.le_of_ble_eq_true rfl) ?_
  intro k C B hin hkl hkg
  subst hkl; subst hkg
  refine x_loc2 (L' := [some (.ref h), none]) rfl ?_
  refine x_aload_n (pc' := 1) C dX1_read_0 rfl rfl rfl ?_
  refine x_iconst (v := 0) (pc' := 2) C dX1_read_1 rfl (by decide) ?_
  obtain ⟨z1, ez1⟩ : ∃ z, z = (setI O 2 0) := ⟨_, rfl⟩
  replace hRES := bd hRES z1 ez1
  replace hok := bdP hok z1 ez1
  refine x_put (pc' := 5) (w' := wOr (kg k) h ad z1) (ty := .int) C B 0 2 inBX1 tyX1 tyX1_ok nmX1 rfl rfl (by decide) fl_X1_38 rfl rfl rfl rfl rfl (Nat.le_of_ble_eq_true rfl) dX1_read_2 rfl (by rw [ez1]; rfl) ?_
  refine x_aload_n (pc' := 6) C dX1_read_5 rfl rfl rfl ?_
  refine x_iconst (v := 0) (pc' := 7) C dX1_read_6 rfl (by decide) ?_
  obtain ⟨z2, ez2⟩ : ∃ z, z = (setI z1 3 0) := ⟨_, rfl⟩
  replace hRES := bd hRES z2 ez2
  replace hok := bdP hok z2 ez2
  refine x_put (pc' := 10) (w' := wOr (kg k) h ad z2) (ty := .int) C B 0 3 inBX1 tyX1 tyX1_ok nmX1 rfl rfl (by decide) fl_X1_41 rfl rfl rfl rfl rfl (Nat.le_of_ble_eq_true rfl) dX1_read_7 rfl (by rw [ez2]; rfl) ?_
  refine x_iconst (v := 0) (pc' := 11) C dX1_read_10 rfl (by decide) ?_
  refine x_istore_n (pc' := 12) (L' := [some (.ref h), some (.int 0)]) C dX1_read_11 rfl rfl (Nat.le_of_ble_eq_true rfl) rfl ?_
  have cont67 : ∀ (O_67 : CS), RES = k_X1_read_67 O_67 → ok_X1_read_67 O_67 → X k 0 0 (wOr (kg k) h ad O_67) 67 [none, none] [] := by
    intro O_67 hRES hok
    unfold k_X1_read_67 at hRES
    unfold ok_X1_read_67 at hok
    refine x_iconst (v := 0) (pc' := 68) C dX1_read_67 rfl (by decide) ?_
    exact x_zret (b := false) C (Nat.zero_le _) (Nat.zero_le _) dX1_read_68 ⟨by rw [hRES], by rw [hRES]⟩
  have loop12 : ∀ (n12 : Nat) (O_12 : CS) (i1_12 : Nat), i1_12 ≤ 16 → 16 < i1_12 + n12 → RES = l_X1_read_12 n12 O_12 i1_12 → ol_X1_read_12 n12 O_12 i1_12 → X k 0 0 (wOr (kg k) h ad O_12) 12 [some (.ref h), some (.int (nI i1_12))] [] := by
    intro n12
    induction n12 with
    | zero =>
      intro O_12 i1_12 hb12 hf12 hRES hok
      omega
    | succ n12 ih12 =>
      intro O_12 i1_12 hb12 hf12 hRES hok
      rw [l_X1_read_12] at hRES
      rw [ol_X1_read_12] at hok
      refine x_iload_n (pc' := 13) C dX1_read_12 rfl rfl rfl ?_
      refine x_bipush (v := 16) (pc' := 15) C dX1_read_13 rfl (by decide) ?_
      refine x_icmpN_ge (tgt := 67) (pc' := 18) C i1_12 16 dX1_read_15 (by decide) rfl (by omega) (by omega) (fun c3 => ?_) (fun c3 => ?_)
      · rw [if_neg c3] at hRES
        replace hok := hok.2 c3
        refine x_forget (L' := [none, none]) [] rfl rfl ?_
        exact cont67 O_12 hRES hok
      · rw [if_pos c3] at hRES
        replace hok := hok.1 c3
        refine x_aload_n (pc' := 19) C dX1_read_18 rfl rfl rfl ?_
        obtain ⟨hn4, hok⟩ := hok
        obtain ⟨z5, ez5⟩ : ∃ z, z = (f_X1_readOrder O_12) := ⟨_, rfl⟩
        replace hRES := bd hRES z5 ez5
        replace hok := bdP hok z5 ez5
        have hc := c_X1_readOrder (kl k) (kg k) h ad O_12 hn4
        rw [← ez5] at hc
        refine x_WV (st := []) (st2 := [.int (bI z5.1)]) (pc' := 22) C B hc cw_X1_44 ok_X1_readOrder rfl (by decide) 0 rfl rfl [0, 1, 2, 3, 4, 5] [] [0, 1, 2, 3, 4, 5] (wOr (kg k) h ad z5.2) rfl rfl rfl rfl (by decide) rfl rfl rfl (Nat.le_of_ble_eq_true rfl) (Nat.zero_le _) (Nat.zero_le _) rfl dX1_read_19 rfl rfl ?_
        refine x_ifB_ne (tgt := 27) (pc' := 25) C dX1_read_22 (by decide) rfl (fun c6 => ?_) (fun c6 => ?_)
        · rw [if_pos c6] at hRES
          replace hok := hok.1 c6
          refine x_aload_n (pc' := 28) C dX1_read_27 rfl rfl rfl ?_
          refine x_dup (pc' := 29) C dX1_read_28 rfl rfl ?_
          refine x_get (pc' := 32) (v := .int (z5.2.1 3)) C 0 3 inBX1 rfl rfl (by decide) fl_X1_41 rfl rfl dX1_read_29 rfl ?_
          refine x_iconst (v := 1) (pc' := 33) C dX1_read_32 rfl (by decide) ?_
          refine x_iadd (pc' := 34) (v := (z5.2.1 3 + 1)) C dX1_read_33 rfl rfl ?_
          obtain ⟨z7, ez7⟩ : ∃ z, z = (setI z5.2 3 (z5.2.1 3 + 1)) := ⟨_, rfl⟩
          replace hRES := bd hRES z7 ez7
          replace hok := bdP hok z7 ez7
          refine x_put (pc' := 37) (w' := wOr (kg k) h ad z7) (ty := .int) C B 0 3 inBX1 tyX1 tyX1_ok nmX1 rfl rfl (by decide) fl_X1_41 rfl rfl rfl rfl rfl (Nat.le_of_ble_eq_true rfl) dX1_read_34 rfl (by rw [ez7]; rfl) ?_
          refine x_aload_n (pc' := 38) C dX1_read_37 rfl rfl rfl ?_
          refine x_get (pc' := 41) (v := .int (z7.1 2)) C 0 2 inBX1 rfl rfl (by decide) fl_X1_38 rfl rfl dX1_read_38 rfl ?_
          refine x_aload_n (pc' := 42) C dX1_read_41 rfl rfl rfl ?_
          refine x_get (pc' := 45) (v := .int (z7.1 1)) C 0 1 inBX1 rfl rfl (by decide) fl_X1_28 rfl rfl dX1_read_42 rfl ?_
          refine x_icmp_lt (tgt := 50) (pc' := 48) C dX1_read_45 (by decide) rfl (fun c8 => ?_) (fun c8 => ?_)
          · rw [if_pos c8] at hRES
            replace hok := hok.1 c8
            refine x_aload_n (pc' := 51) C dX1_read_50 rfl rfl rfl ?_
            refine x_bipush (v := 59) (pc' := 53) C dX1_read_51 rfl (by decide) ?_
            obtain ⟨z9, ez9⟩ : ∃ z, z = (f_X1_readSign z7 59) := ⟨_, rfl⟩
            replace hRES := bd hRES z9 ez9
            replace hok := bdP hok z9 ez9
            have hc := c_X1_readSign (kl k) (kg k) h ad z7 59
            rw [← ez9] at hc
            refine x_WV (st := []) (st2 := [.int (bI z9.1)]) (pc' := 56) C B hc cw_X1_48 ok_X1_readSign rfl (by decide) 0 rfl rfl [0, 1, 2, 3, 4, 5] [] [0, 1, 2, 3, 4, 5] (wOr (kg k) h ad z9.2) rfl rfl rfl rfl (by decide) rfl rfl rfl (Nat.le_of_ble_eq_true rfl) (Nat.zero_le _) (Nat.zero_le _) rfl dX1_read_53 rfl rfl ?_
            refine x_ifB_ne (tgt := 61) (pc' := 59) C dX1_read_56 (by decide) rfl (fun c10 => ?_) (fun c10 => ?_)
            · rw [if_pos c10] at hRES
              replace hok := hok.1 c10
              refine x_iinc (pc' := 64) (v := (nI (i1_12 + 1))) (L' := [some (.ref h), some (.int (nI (i1_12 + 1)))]) C dX1_read_61 rfl rfl (nI_add i1_12 1) (Nat.le_of_ble_eq_true rfl) rfl ?_
              refine x_goto (tgt := 12) C dX1_read_64 (by decide) ?_
              exact ih12 z9.2 (i1_12 + 1) (by omega) (by omega) hRES hok
            · rw [if_neg c10] at hRES
              replace hok := hok.2 c10
              refine x_iconst (v := 0) (pc' := 60) C dX1_read_59 rfl (by decide) ?_
              exact x_zret (b := false) C (Nat.zero_le _) (Nat.zero_le _) dX1_read_60 ⟨by rw [hRES], by rw [hRES]⟩
          · rw [if_neg c8] at hRES
            replace hok := hok.2 c8
            refine x_iconst (v := 1) (pc' := 49) C dX1_read_48 rfl (by decide) ?_
            exact x_zret (b := true) C (Nat.zero_le _) (Nat.zero_le _) dX1_read_49 ⟨by rw [hRES], by rw [hRES]⟩
        · rw [if_neg c6] at hRES
          replace hok := hok.2 c6
          refine x_iconst (v := 0) (pc' := 26) C dX1_read_25 rfl (by decide) ?_
          exact x_zret (b := false) C (Nat.zero_le _) (Nat.zero_le _) dX1_read_26 ⟨by rw [hRES], by rw [hRES]⟩
  exact loop12 17 z2 0 (by omega) (by omega) hRES hok
