def f_X4_isIn (a1 : Int32) (a2 : Int32) : Bool := (if a2 < 0 then false else (if a2 < 24 then (if ((ushr a1 a2) &&& 1) = 0 then false else true) else false))
set_option maxRecDepth 100000 in
set_option maxHeartbeats 8000000 in
theorem c_X4_isIn (l : Launch) (g : GT) (a1 : Int32) (a2 : Int32) : CR l yX4_isIn (.code yX4_isIn cX4_isIn 2 (some .boolean)) 0 g [.int a1, .int a2] ([]) (some (.int (bI (f_X4_isIn a1 a2)))) := by
  obtain ⟨RES, hRES⟩ : ∃ z, z = (f_X4_isIn a1 a2) := ⟨_, rfl⟩
  rw [← hRES]
  unfold f_X4_isIn at hRES
  refine CRx.of (nL := 2) (ret := (some .boolean)) (own := RX4) (cc := cX4_isIn) rfl (by decide) rfl (List.forall_mem_cons.mpr ⟨rfl, (List.forall_mem_cons.mpr ⟨rfl, (fun _ h => absurd h List.not_mem_nil)⟩)⟩) (Nat.le_of_ble_eq_true rfl) ?_
  intro k C hkl hkg
  subst hkl; subst hkg
  refine x_loc2 (L' := [some (.int a1), some (.int a2)]) rfl ?_
  refine x_iload_n (pc' := 1) C dX4_isIn_0 rfl rfl rfl ?_
  refine x_if_lt (tgt := 22) (pc' := 4) C dX4_isIn_1 (by decide) rfl (fun c1 => ?_) (fun c1 => ?_)
  · rw [if_pos c1] at hRES
    refine x_iconst (v := 0) (pc' := 23) C dX4_isIn_22 rfl (by decide) ?_
    exact x_zret (b := false) C (Nat.zero_le _) (Nat.zero_le _) dX4_isIn_23 (by rw [hRES])
  · rw [if_neg c1] at hRES
    refine x_iload_n (pc' := 5) C dX4_isIn_4 rfl rfl rfl ?_
    refine x_bipush (v := 24) (pc' := 7) C dX4_isIn_5 rfl (by decide) ?_
    refine x_icmp_ge (tgt := 22) (pc' := 10) C dX4_isIn_7 (by decide) rfl (fun c2 => ?_) (fun c2 => ?_)
    · rw [if_neg c2] at hRES
      refine x_iconst (v := 0) (pc' := 23) C dX4_isIn_22 rfl (by decide) ?_
      exact x_zret (b := false) C (Nat.zero_le _) (Nat.zero_le _) dX4_isIn_23 (by rw [hRES])
    · rw [if_pos c2] at hRES
      refine x_iload_n (pc' := 11) C dX4_isIn_10 rfl rfl rfl ?_
      refine x_iload_n (pc' := 12) C dX4_isIn_11 rfl rfl rfl ?_
      refine x_iushr (pc' := 13) (v := (ushr a1 a2)) C dX4_isIn_12 rfl rfl ?_
      refine x_iconst (v := 1) (pc' := 14) C dX4_isIn_13 rfl (by decide) ?_
      refine x_iand (pc' := 15) (v := ((ushr a1 a2) &&& 1)) C dX4_isIn_14 rfl rfl ?_
      refine x_if_eq (tgt := 22) (pc' := 18) C dX4_isIn_15 (by decide) rfl (fun c3 => ?_) (fun c3 => ?_)
      · rw [if_pos c3] at hRES
        refine x_iconst (v := 0) (pc' := 23) C dX4_isIn_22 rfl (by decide) ?_
        exact x_zret (b := false) C (Nat.zero_le _) (Nat.zero_le _) dX4_isIn_23 (by rw [hRES])
      · rw [if_neg c3] at hRES
        refine x_iconst (v := 1) (pc' := 19) C dX4_isIn_18 rfl (by decide) ?_
        refine x_goto (tgt := 23) C dX4_isIn_19 (by decide) ?_
        exact x_zret (b := true) C (Nat.zero_le _) (Nat.zero_le _) dX4_isIn_23 (by rw [hRES])

def f_X5_has (S : CS) (a1 : Int32) : Bool := (f_X4_isIn (S.1 0) a1)
set_option maxRecDepth 100000 in
set_option maxHeartbeats 8000000 in
theorem c_X5_has (l : Launch) (g : GT) (h : Nat) (ad : Nat → Nat) (S : CS) (a1 : Int32) : CR l yX5_has (.code yX5_has cX5_has 2 (some .boolean)) 1 g [.ref h, .int a1] (wSt g h ad S) (some (.int (bI (f_X5_has S a1)))) := by
  obtain ⟨RES, hRES⟩ : ∃ z, z = (f_X5_has S a1) := ⟨_, rfl⟩
  rw [← hRES]
  unfold f_X5_has at hRES
  refine CRx.of (nL := 2) (ret := (some .boolean)) (own := RX5) (cc := cX5_has) rfl (by decide) rfl (List.forall_mem_cons.mpr ⟨rfl, (List.forall_mem_cons.mpr ⟨rfl, (fun _ h => absurd h List.not_mem_nil)⟩)⟩) (Nat.le_of_ble_eq_true rfl) ?_
  intro k C hkl hkg
  subst hkl; subst hkg
  refine x_loc2 (L' := [some (.ref h), some (.int a1)]) rfl ?_
  refine x_aload_n (pc' := 1) C dX5_has_0 rfl rfl rfl ?_
  refine x_get (pc' := 4) (v := .int (S.1 0)) C 0 0 inBX5 rfl rfl (by decide) fl_X5_9 rfl rfl dX5_has_1 rfl ?_
  refine x_iload_n (pc' := 5) C dX5_has_4 rfl rfl rfl ?_
  refine x_RS (st := []) (st2 := [.int (bI (f_X4_isIn (S.1 0) a1))]) (pc' := 8) C (c_X4_isIn (kl k) (kg k) (S.1 0) a1) cw_X5_58 ok_X4_isIn (by decide) [] rfl rfl rfl (Nat.le_of_ble_eq_true rfl) (Nat.zero_le _) (Nat.zero_le _) rfl dX5_has_5 rfl rfl ?_
  exact x_zret (b := (f_X4_isIn (S.1 0) a1)) C (Nat.zero_le _) (Nat.zero_le _) dX5_has_8 (by rw [hRES])

def f_X5_isKept (S : CS) (a1 : Int32) : Bool := (f_X4_isIn (S.1 1) a1)
set_option maxRecDepth 100000 in
set_option maxHeartbeats 8000000 in
theorem c_X5_isKept (l : Launch) (g : GT) (h : Nat) (ad : Nat → Nat) (S : CS) (a1 : Int32) : CR l yX5_isKept (.code yX5_isKept cX5_isKept 2 (some .boolean)) 1 g [.ref h, .int a1] (wSt g h ad S) (some (.int (bI (f_X5_isKept S a1)))) := by
  obtain ⟨RES, hRES⟩ : ∃ z, z = (f_X5_isKept S a1) := ⟨_, rfl⟩
  rw [← hRES]
  unfold f_X5_isKept at hRES
  refine CRx.of (nL := 2) (ret := (some .boolean)) (own := RX5) (cc := cX5_isKept) rfl (by decide) rfl (List.forall_mem_cons.mpr ⟨rfl, (List.forall_mem_cons.mpr ⟨rfl, (fun _ h => absurd h List.not_mem_nil)⟩)⟩) (Nat.le_of_ble_eq_true rfl) ?_
  intro k C hkl hkg
  subst hkl; subst hkg
  refine x_loc2 (L' := [some (.ref h), some (.int a1)]) rfl ?_
  refine x_aload_n (pc' := 1) C dX5_isKept_0 rfl rfl rfl ?_
  refine x_get (pc' := 4) (v := .int (S.1 1)) C 0 1 inBX5 rfl rfl (by decide) fl_X5_37 rfl rfl dX5_isKept_1 rfl ?_
  refine x_iload_n (pc' := 5) C dX5_isKept_4 rfl rfl rfl ?_
  refine x_RS (st := []) (st2 := [.int (bI (f_X4_isIn (S.1 1) a1))]) (pc' := 8) C (c_X4_isIn (kl k) (kg k) (S.1 1) a1) cw_X5_58 ok_X4_isIn (by decide) [] rfl rfl rfl (Nat.le_of_ble_eq_true rfl) (Nat.zero_le _) (Nat.zero_le _) rfl dX5_isKept_5 rfl rfl ?_
  exact x_zret (b := (f_X4_isIn (S.1 1) a1)) C (Nat.zero_le _) (Nat.zero_le _) dX5_isKept_8 (by rw [hRES])

def f_X5_isRoot (S : CS) (a1 : Int32) : Bool := (f_X4_isIn (S.1 2) a1)
set_option maxRecDepth 100000 in
set_option maxHeartbeats 8000000 in
theorem c_X5_isRoot (l : Launch) (g : GT) (h : Nat) (ad : Nat → Nat) (S : CS) (a1 : Int32) : CR l yX5_isRoot (.code yX5_isRoot cX5_isRoot 2 (some .boolean)) 1 g [.ref h, .int a1] (wSt g h ad S) (some (.int (bI (f_X5_isRoot S a1)))) := by
  obtain ⟨RES, hRES⟩ : ∃ z, z = (f_X5_isRoot S a1) := ⟨_, rfl⟩
  rw [← hRES]
  unfold f_X5_isRoot at hRES
  refine CRx.of (nL := 2) (ret := (some .boolean)) (own := RX5) (cc := cX5_isRoot) rfl (by decide) rfl (List.forall_mem_cons.mpr ⟨rfl, (List.forall_mem_cons.mpr ⟨rfl, (fun _ h => absurd h List.not_mem_nil)⟩)⟩) (Nat.le_of_ble_eq_true rfl) ?_
  intro k C hkl hkg
  subst hkl; subst hkg
  refine x_loc2 (L' := [some (.ref h), some (.int a1)]) rfl ?_
  refine x_aload_n (pc' := 1) C dX5_isRoot_0 rfl rfl rfl ?_
  refine x_get (pc' := 4) (v := .int (S.1 2)) C 0 2 inBX5 rfl rfl (by decide) fl_X5_15 rfl rfl dX5_isRoot_1 rfl ?_
  refine x_iload_n (pc' := 5) C dX5_isRoot_4 rfl rfl rfl ?_
  refine x_RS (st := []) (st2 := [.int (bI (f_X4_isIn (S.1 2) a1))]) (pc' := 8) C (c_X4_isIn (kl k) (kg k) (S.1 2) a1) cw_X5_58 ok_X4_isIn (by decide) [] rfl rfl rfl (Nat.le_of_ble_eq_true rfl) (Nat.zero_le _) (Nat.zero_le _) rfl dX5_isRoot_5 rfl rfl ?_
  exact x_zret (b := (f_X4_isIn (S.1 2) a1)) C (Nat.zero_le _) (Nat.zero_le _) dX5_isRoot_8 (by rw [hRES])

def f_X3_at (n1 : Nat) (f1 : Nat → Int32) (a2 : Int32) : Int32 := (if a2 < 0 then 0 else (if a2 < (nI n1) then (f1 (a2).toNatClampNeg) else 0))
set_option maxRecDepth 100000 in
set_option maxHeartbeats 8000000 in
theorem c_X3_at (l : Launch) (g : GT) (r1 n1 : Nat) (f1 : Nat → Int32) (a2 : Int32) (hn1 : n1 < 2 ^ 31) : CR l yX3_at (.code yX3_at cX3_at 2 (some .int)) 0 g [.ref r1, .int a2] (wAr g r1 n1 f1) (some (.int (f_X3_at n1 f1 a2))) := by
  obtain ⟨RES, hRES⟩ : ∃ z, z = (f_X3_at n1 f1 a2) := ⟨_, rfl⟩
  rw [← hRES]
  unfold f_X3_at at hRES
  refine CRx.of (nL := 2) (ret := (some .int)) (own := RX3) (cc := cX3_at) rfl (by decide) rfl (List.forall_mem_cons.mpr ⟨rfl, (List.forall_mem_cons.mpr ⟨rfl, (fun _ h => absurd h List.not_mem_nil)⟩)⟩) (Nat.le_of_ble_eq_true rfl) ?_
  intro k C hkl hkg
  subst hkl; subst hkg
  refine x_loc2 (L' := [some (.ref r1), some (.int a2)]) rfl ?_
  refine x_iload_n (pc' := 1) C dX3_at_0 rfl rfl rfl ?_
  refine x_if_lt (tgt := 16) (pc' := 4) C dX3_at_1 (by decide) rfl (fun c1 => ?_) (fun c1 => ?_)
  · rw [if_pos c1] at hRES
    refine x_iconst (v := 0) (pc' := 17) C dX3_at_16 rfl (by decide) ?_
    exact x_iret C (Nat.zero_le _) (Nat.zero_le _) dX3_at_17 (by rw [hRES])
  · rw [if_neg c1] at hRES
    refine x_iload_n (pc' := 5) C dX3_at_4 rfl rfl rfl ?_
    refine x_aload_n (pc' := 6) C dX3_at_5 rfl rfl rfl ?_
    refine x_alenI (pc' := 7) (v := (nI n1)) C 0 rfl rfl dX3_at_6 rfl ?_
    refine x_icmp_ge (tgt := 16) (pc' := 10) C dX3_at_7 (by decide) rfl (fun c2 => ?_) (fun c2 => ?_)
    · rw [if_neg c2] at hRES
      refine x_iconst (v := 0) (pc' := 17) C dX3_at_16 rfl (by decide) ?_
      exact x_iret C (Nat.zero_le _) (Nat.zero_le _) dX3_at_17 (by rw [hRES])
    · rw [if_pos c2] at hRES
      refine x_aload_n (pc' := 11) C dX3_at_10 rfl rfl rfl ?_
      refine x_iload_n (pc' := 12) C dX3_at_11 rfl rfl rfl ?_
      refine x_iald (pc' := 13) (f := f1) (v := (f1 (a2).toNatClampNeg)) C 0 rfl (in_of c1 c2 hn1) rfl dX3_at_12 rfl ?_
      refine x_goto (tgt := 17) C dX3_at_13 (by decide) ?_
      exact x_iret C (Nat.zero_le _) (Nat.zero_le _) dX3_at_17 (by rw [hRES])

def f_X5_sourceOf (S : CS) (a1 : Int32) : Int32 := (f_X3_at 24 (S.2 3) a1)
set_option maxRecDepth 100000 in
set_option maxHeartbeats 8000000 in
theorem c_X5_sourceOf (l : Launch) (g : GT) (h : Nat) (ad : Nat → Nat) (S : CS) (a1 : Int32) : CR l yX5_sourceOf (.code yX5_sourceOf cX5_sourceOf 2 (some .int)) 1 g [.ref h, .int a1] (wSt g h ad S) (some (.int (f_X5_sourceOf S a1))) := by
  obtain ⟨RES, hRES⟩ : ∃ z, z = (f_X5_sourceOf S a1) := ⟨_, rfl⟩
  rw [← hRES]
  unfold f_X5_sourceOf at hRES
  refine CRx.of (nL := 2) (ret := (some .int)) (own := RX5) (cc := cX5_sourceOf) rfl (by decide) rfl (List.forall_mem_cons.mpr ⟨rfl, (List.forall_mem_cons.mpr ⟨rfl, (fun _ h => absurd h List.not_mem_nil)⟩)⟩) (Nat.le_of_ble_eq_true rfl) ?_
  intro k C hkl hkg
  subst hkl; subst hkg
  refine x_loc2 (L' := [some (.ref h), some (.int a1)]) rfl ?_
  refine x_aload_n (pc' := 1) C dX5_sourceOf_0 rfl rfl rfl ?_
  refine x_get (pc' := 4) (v := .ref (ad 3)) C 0 3 inBX5 rfl rfl (by decide) fl_X5_18 rfl rfl dX5_sourceOf_1 rfl ?_
  refine x_iload_n (pc' := 5) C dX5_sourceOf_4 rfl rfl rfl ?_
  refine x_RS (st := []) (st2 := [.int (f_X3_at 24 (S.2 3) a1)]) (pc' := 8) C (c_X3_at (kl k) (kg k) (ad 3) 24 (S.2 3) a1 (by decide)) cw_X5_64 ok_X3_at (by decide) [1] rfl rfl rfl (Nat.le_of_ble_eq_true rfl) (Nat.zero_le _) (Nat.zero_le _) rfl dX5_sourceOf_5 rfl rfl ?_
  exact x_iret C (Nat.zero_le _) (Nat.zero_le _) dX5_sourceOf_8 (by rw [hRES])

def f_X5_differenceOf (S : CS) (a1 : Int32) : Int32 := (f_X3_at 24 (S.2 4) a1)
set_option maxRecDepth 100000 in
set_option maxHeartbeats 8000000 in
theorem c_X5_differenceOf (l : Launch) (g : GT) (h : Nat) (ad : Nat → Nat) (S : CS) (a1 : Int32) : CR l yX5_differenceOf (.code yX5_differenceOf cX5_differenceOf 2 (some .int)) 1 g [.ref h, .int a1] (wSt g h ad S) (some (.int (f_X5_differenceOf S a1))) := by
  obtain ⟨RES, hRES⟩ : ∃ z, z = (f_X5_differenceOf S a1) := ⟨_, rfl⟩
  rw [← hRES]
  unfold f_X5_differenceOf at hRES
  refine CRx.of (nL := 2) (ret := (some .int)) (own := RX5) (cc := cX5_differenceOf) rfl (by decide) rfl (List.forall_mem_cons.mpr ⟨rfl, (List.forall_mem_cons.mpr ⟨rfl, (fun _ h => absurd h List.not_mem_nil)⟩)⟩) (Nat.le_of_ble_eq_true rfl) ?_
  intro k C hkl hkg
  subst hkl; subst hkg
  refine x_loc2 (L' := [some (.ref h), some (.int a1)]) rfl ?_
  refine x_aload_n (pc' := 1) C dX5_differenceOf_0 rfl rfl rfl ?_
  refine x_get (pc' := 4) (v := .ref (ad 4)) C 0 4 inBX5 rfl rfl (by decide) fl_X5_22 rfl rfl dX5_differenceOf_1 rfl ?_
  refine x_iload_n (pc' := 5) C dX5_differenceOf_4 rfl rfl rfl ?_
  refine x_RS (st := []) (st2 := [.int (f_X3_at 24 (S.2 4) a1)]) (pc' := 8) C (c_X3_at (kl k) (kg k) (ad 4) 24 (S.2 4) a1 (by decide)) cw_X5_64 ok_X3_at (by decide) [2] rfl rfl rfl (Nat.le_of_ble_eq_true rfl) (Nat.zero_le _) (Nat.zero_le _) rfl dX5_differenceOf_5 rfl rfl ?_
  exact x_iret C (Nat.zero_le _) (Nat.zero_le _) dX5_differenceOf_8 (by rw [hRES])

def f_X5_askedFor (S : CS) (a1 : Int32) : Int32 := (f_X3_at 24 (S.2 5) a1)
set_option maxRecDepth 100000 in
set_option maxHeartbeats 8000000 in
theorem c_X5_askedFor (l : Launch) (g : GT) (h : Nat) (ad : Nat → Nat) (S : CS) (a1 : Int32) : CR l yX5_askedFor (.code yX5_askedFor cX5_askedFor 2 (some .int)) 1 g [.ref h, .int a1] (wSt g h ad S) (some (.int (f_X5_askedFor S a1))) := by
  obtain ⟨RES, hRES⟩ : ∃ z, z = (f_X5_askedFor S a1) := ⟨_, rfl⟩
  rw [← hRES]
  unfold f_X5_askedFor at hRES
  refine CRx.of (nL := 2) (ret := (some .int)) (own := RX5) (cc := cX5_askedFor) rfl (by decide) rfl (List.forall_mem_cons.mpr ⟨rfl, (List.forall_mem_cons.mpr ⟨rfl, (fun _ h => absurd h List.not_mem_nil)⟩)⟩) (Nat.le_of_ble_eq_true rfl) ?_
  intro k C hkl hkg
  subst hkl; subst hkg
  refine x_loc2 (L' := [some (.ref h), some (.int a1)]) rfl ?_
  refine x_aload_n (pc' := 1) C dX5_askedFor_0 rfl rfl rfl ?_
  refine x_get (pc' := 4) (v := .ref (ad 5)) C 0 5 inBX5 rfl rfl (by decide) fl_X5_25 rfl rfl dX5_askedFor_1 rfl ?_
  refine x_iload_n (pc' := 5) C dX5_askedFor_4 rfl rfl rfl ?_
  refine x_RS (st := []) (st2 := [.int (f_X3_at 24 (S.2 5) a1)]) (pc' := 8) C (c_X3_at (kl k) (kg k) (ad 5) 24 (S.2 5) a1 (by decide)) cw_X5_64 ok_X3_at (by decide) [3] rfl rfl rfl (Nat.le_of_ble_eq_true rfl) (Nat.zero_le _) (Nat.zero_le _) rfl dX5_askedFor_5 rfl rfl ?_
  exact x_iret C (Nat.zero_le _) (Nat.zero_le _) dX5_askedFor_8 (by rw [hRES])

def f_X5_numberIn (S : CS) (a1 : Int32) (a2 : Int32) : Int32 := (f_X3_at 192 (S.2 6) ((a1 * 8) + a2))
set_option maxRecDepth 100000 in
set_option maxHeartbeats 8000000 in
theorem c_X5_numberIn (l : Launch) (g : GT) (h : Nat) (ad : Nat → Nat) (S : CS) (a1 : Int32) (a2 : Int32) : CR l yX5_numberIn (.code yX5_numberIn cX5_numberIn 3 (some .int)) 1 g [.ref h, .int a1, .int a2] (wSt g h ad S) (some (.int (f_X5_numberIn S a1 a2))) := by
  obtain ⟨RES, hRES⟩ : ∃ z, z = (f_X5_numberIn S a1 a2) := ⟨_, rfl⟩
  rw [← hRES]
  unfold f_X5_numberIn at hRES
  refine CRx.of (nL := 3) (ret := (some .int)) (own := RX5) (cc := cX5_numberIn) rfl (by decide) rfl (List.forall_mem_cons.mpr ⟨rfl, (List.forall_mem_cons.mpr ⟨rfl, (List.forall_mem_cons.mpr ⟨rfl, (fun _ h => absurd h List.not_mem_nil)⟩)⟩)⟩) (Nat.le_of_ble_eq_true rfl) ?_
  intro k C hkl hkg
  subst hkl; subst hkg
  refine x_loc2 (L' := [some (.ref h), some (.int a1), some (.int a2)]) rfl ?_
  refine x_aload_n (pc' := 1) C dX5_numberIn_0 rfl rfl rfl ?_
  refine x_get (pc' := 4) (v := .ref (ad 6)) C 0 6 inBX5 rfl rfl (by decide) fl_X5_28 rfl rfl dX5_numberIn_1 rfl ?_
  refine x_iload_n (pc' := 5) C dX5_numberIn_4 rfl rfl rfl ?_
  refine x_bipush (v := 8) (pc' := 7) C dX5_numberIn_5 rfl (by decide) ?_
  refine x_imul (pc' := 8) (v := (a1 * 8)) C dX5_numberIn_7 rfl rfl ?_
  refine x_iload_n (pc' := 9) C dX5_numberIn_8 rfl rfl rfl ?_
  refine x_iadd (pc' := 10) (v := ((a1 * 8) + a2)) C dX5_numberIn_9 rfl rfl ?_
  refine x_RS (st := []) (st2 := [.int (f_X3_at 192 (S.2 6) ((a1 * 8) + a2))]) (pc' := 13) C (c_X3_at (kl k) (kg k) (ad 6) 192 (S.2 6) ((a1 * 8) + a2) (by decide)) cw_X5_64 ok_X3_at (by decide) [4] rfl rfl rfl (Nat.le_of_ble_eq_true rfl) (Nat.zero_le _) (Nat.zero_le _) rfl dX5_numberIn_10 rfl rfl ?_
  exact x_iret C (Nat.zero_le _) (Nat.zero_le _) dX5_numberIn_13 (by rw [hRES])

def f_X3_put (n1 : Nat) (f1 : Nat → Int32) (a2 : Int32) (a3 : Int32) : (Nat → Int32) := (if a2 < 0 then f1 else (if a2 < (nI n1) then (bind1 (upd f1 (a2).toNatClampNeg a3) (fun z3 => z3)) else f1))
set_option maxRecDepth 100000 in
set_option maxHeartbeats 8000000 in
theorem c_X3_put (l : Launch) (g : GT) (r1 n1 : Nat) (f1 : Nat → Int32) (a2 : Int32) (a3 : Int32) (hn1 : n1 < 2 ^ 31) : CW l yX3_put (.code yX3_put cX3_put 3 none) 0 g [.ref r1, .int a2, .int a3] (wAr g r1 n1 f1) none (wAr g r1 n1 (f_X3_put n1 f1 a2 a3)) := by
  obtain ⟨RES, hRES⟩ : ∃ z, z = (f_X3_put n1 f1 a2 a3) := ⟨_, rfl⟩
  rw [← hRES]
  unfold f_X3_put at hRES
  refine CWx.of (nL := 3) (ret := none) (own := RX3) (cc := cX3_put) rfl (by decide) rfl (List.forall_mem_cons.mpr ⟨rfl, (List.forall_mem_cons.mpr ⟨rfl, (List.forall_mem_cons.mpr ⟨rfl, (fun _ h => absurd h List.not_mem_nil)⟩)⟩)⟩) (Nat.le_of_ble_eq_true rfl) ?_
  intro k C B hin hkl hkg
  subst hkl; subst hkg
  refine x_loc2 (L' := [some (.ref r1), some (.int a2), some (.int a3)]) rfl ?_
  refine x_iload_n (pc' := 1) C dX3_put_0 rfl rfl rfl ?_
  refine x_if_lt (tgt := 14) (pc' := 4) C dX3_put_1 (by decide) rfl (fun c1 => ?_) (fun c1 => ?_)
  · rw [if_pos c1] at hRES
    exact x_vret C (Nat.zero_le _) (Nat.zero_le _) dX3_put_14 ⟨rfl, by rw [hRES]⟩
  · rw [if_neg c1] at hRES
    refine x_iload_n (pc' := 5) C dX3_put_4 rfl rfl rfl ?_
    refine x_aload_n (pc' := 6) C dX3_put_5 rfl rfl rfl ?_
    refine x_alenI (pc' := 7) (v := (nI n1)) C 0 rfl rfl dX3_put_6 rfl ?_
    refine x_icmp_ge (tgt := 14) (pc' := 10) C dX3_put_7 (by decide) rfl (fun c2 => ?_) (fun c2 => ?_)
    · rw [if_neg c2] at hRES
      exact x_vret C (Nat.zero_le _) (Nat.zero_le _) dX3_put_14 ⟨rfl, by rw [hRES]⟩
    · rw [if_pos c2] at hRES
      refine x_aload_n (pc' := 11) C dX3_put_10 rfl rfl rfl ?_
      refine x_iload_n (pc' := 12) C dX3_put_11 rfl rfl rfl ?_
      refine x_iload_n (pc' := 13) C dX3_put_12 rfl rfl rfl ?_
      obtain ⟨z3, ez3⟩ : ∃ z, z = (upd f1 (a2).toNatClampNeg a3) := ⟨_, rfl⟩
      replace hRES := bd hRES z3 ez3
      refine x_iast (pc' := 14) (f := f1) (w' := wAr (kg k) r1 n1 z3) C B 0 rfl (in_of c1 c2 hn1) dX3_put_13 rfl (by rw [ez3]; rfl) ?_
      exact x_vret C (Nat.zero_le _) (Nat.zero_le _) dX3_put_14 ⟨rfl, by rw [hRES]⟩

def f_X5_putNumber (S : CS) (a1 : Int32) (a2 : Int32) (a3 : Int32) : CS := (bind1 (setF S 6 (f_X3_put 192 (S.2 6) ((a1 * 8) + a2) a3)) (fun z1 => z1))
set_option maxRecDepth 100000 in
set_option maxHeartbeats 8000000 in
theorem c_X5_putNumber (l : Launch) (g : GT) (h : Nat) (ad : Nat → Nat) (S : CS) (a1 : Int32) (a2 : Int32) (a3 : Int32) : CW l yX5_putNumber (.code yX5_putNumber cX5_putNumber 4 none) 1 g [.ref h, .int a1, .int a2, .int a3] (wSt g h ad S) none (wSt g h ad (f_X5_putNumber S a1 a2 a3)) := by
  obtain ⟨RES, hRES⟩ : ∃ z, z = (f_X5_putNumber S a1 a2 a3) := ⟨_, rfl⟩
  rw [← hRES]
  unfold f_X5_putNumber at hRES
  refine CWx.of (nL := 4) (ret := none) (own := RX5) (cc := cX5_putNumber) rfl (by decide) rfl (List.forall_mem_cons.mpr ⟨rfl, (List.forall_mem_cons.mpr ⟨rfl, (List.forall_mem_cons.mpr ⟨rfl, (List.forall_mem_cons.mpr ⟨rfl, (fun _ h => absurd h List.not_mem_nil)⟩)⟩)⟩)⟩) (Nat.le_of_ble_eq_true rfl) ?_
  intro k C B hin hkl hkg
  subst hkl; subst hkg
  refine x_loc2 (L' := [some (.ref h), some (.int a1), some (.int a2), some (.int a3)]) rfl ?_
  refine x_aload_n (pc' := 1) C dX5_putNumber_0 rfl rfl rfl ?_
  refine x_get (pc' := 4) (v := .ref (ad 6)) C 0 6 inBX5 rfl rfl (by decide) fl_X5_28 rfl rfl dX5_putNumber_1 rfl ?_
  refine x_iload_n (pc' := 5) C dX5_putNumber_4 rfl rfl rfl ?_
  refine x_bipush (v := 8) (pc' := 7) C dX5_putNumber_5 rfl (by decide) ?_
  refine x_imul (pc' := 8) (v := (a1 * 8)) C dX5_putNumber_7 rfl rfl ?_
  refine x_iload_n (pc' := 9) C dX5_putNumber_8 rfl rfl rfl ?_
  refine x_iadd (pc' := 10) (v := ((a1 * 8) + a2)) C dX5_putNumber_9 rfl rfl ?_
  refine x_iload_n (pc' := 11) C dX5_putNumber_10 rfl rfl rfl ?_
  obtain ⟨z1, ez1⟩ : ∃ z, z = (setF S 6 (f_X3_put 192 (S.2 6) ((a1 * 8) + a2) a3)) := ⟨_, rfl⟩
  replace hRES := bd hRES z1 ez1
  refine x_WS (st := []) (st2 := []) (pc' := 14) C B (c_X3_put (kl k) (kg k) (ad 6) 192 (S.2 6) ((a1 * 8) + a2) a3 (by decide)) cw_X5_68 ok_X3_put (by decide) [4] [0, 1, 2, 3] [0, 1, 2, 3, 4] (wSt (kg k) h ad z1) rfl rfl rfl rfl (by decide) rfl (by rw [ez1]; rfl) rfl (Nat.le_of_ble_eq_true rfl) (Nat.zero_le _) (Nat.zero_le _) rfl dX5_putNumber_11 rfl rfl ?_
  exact x_vret C (Nat.zero_le _) (Nat.zero_le _) dX5_putNumber_14 ⟨rfl, by rw [hRES]⟩

def k_X5_copyCells_39 (S_39 : CS) : CS := S_39
def l_X5_copyCells_3 (a1 : Int32) (a2 : Int32) (a3 : Int32) : Nat → CS → Nat → CS
  | 0, _, _ => dfCS
  | n3 + 1, S_3, i4_3 => (if i4_3 < 8 then (if (f_X4_isIn a3 (nI i4_3)) = true then (bind1 (f_X5_putNumber S_3 a2 (nI i4_3) (f_X5_numberIn S_3 a1 (nI i4_3))) (fun z3 => (l_X5_copyCells_3 a1 a2 a3 n3 z3 (i4_3 + 1)))) else (l_X5_copyCells_3 a1 a2 a3 n3 S_3 (i4_3 + 1))) else (k_X5_copyCells_39 S_3))
def f_X5_copyCells (S : CS) (a1 : Int32) (a2 : Int32) (a3 : Int32) : CS := (l_X5_copyCells_3 a1 a2 a3 9 S 0)
set_option maxRecDepth 100000 in
set_option maxHeartbeats 8000000 in
theorem c_X5_copyCells (l : Launch) (g : GT) (h : Nat) (ad : Nat → Nat) (S : CS) (a1 : Int32) (a2 : Int32) (a3 : Int32) : CW l yX5_copyCells (.code yX5_copyCells cX5_copyCells 5 none) 2 g [.ref h, .int a1, .int a2, .int a3] (wSt g h ad S) none (wSt g h ad (f_X5_copyCells S a1 a2 a3)) := by
  obtain ⟨RES, hRES⟩ : ∃ z, z = (f_X5_copyCells S a1 a2 a3) := ⟨_, rfl⟩
  rw [← hRES]
  unfold f_X5_copyCells at hRES
  refine CWx.of (nL := 5) (ret := none) (own := RX5) (cc := cX5_copyCells) rfl (by decide) rfl (List.forall_mem_cons.mpr ⟨rfl, (List.forall_mem_cons.mpr ⟨rfl, (List.forall_mem_cons.mpr ⟨rfl, (List.forall_mem_cons.mpr ⟨rfl, (fun _ h => absurd h List.not_mem_nil)⟩)⟩)⟩)⟩) (Nat.le_of_ble_eq_true rfl) ?_
  intro k C B hin hkl hkg
  subst hkl; subst hkg
  refine x_loc2 (L' := [some (.ref h), some (.int a1), some (.int a2), some (.int a3), none]) rfl ?_
  refine x_iconst (v := 0) (pc' := 1) C dX5_copyCells_0 rfl (by decide) ?_
  refine x_istore (pc' := 3) (L' := [some (.ref h), some (.int a1), some (.int a2), some (.int a3), some (.int 0)]) C dX5_copyCells_1 rfl (Nat.le_of_ble_eq_true rfl) rfl ?_
  have cont39 : ∀ (S_39 : CS), RES = k_X5_copyCells_39 S_39 → X k 0 0 (wSt (kg k) h ad S_39) 39 [none, none, none, none, none] [] := by
    intro S_39 hRES
    unfold k_X5_copyCells_39 at hRES
    exact x_vret C (Nat.zero_le _) (Nat.zero_le _) dX5_copyCells_39 ⟨rfl, by rw [hRES]⟩
  have loop3 : ∀ (n3 : Nat) (S_3 : CS) (i4_3 : Nat), i4_3 ≤ 8 → 8 < i4_3 + n3 → RES = l_X5_copyCells_3 a1 a2 a3 n3 S_3 i4_3 → X k 0 0 (wSt (kg k) h ad S_3) 3 [some (.ref h), some (.int a1), some (.int a2), some (.int a3), some (.int (nI i4_3))] [] := by
    intro n3
    induction n3 with
    | zero =>
      intro S_3 i4_3 hb3 hf3 hRES
      omega
    | succ n3 ih3 =>
      intro S_3 i4_3 hb3 hf3 hRES
      rw [l_X5_copyCells_3] at hRES
      refine x_iload (pc' := 5) C dX5_copyCells_3 rfl rfl ?_
      refine x_bipush (v := 8) (pc' := 7) C dX5_copyCells_5 rfl (by decide) ?_
      refine x_icmpN_ge (tgt := 39) (pc' := 10) C i4_3 8 dX5_copyCells_7 (by decide) rfl (by omega) (by omega) (fun c1 => ?_) (fun c1 => ?_)
      · rw [if_neg c1] at hRES
        refine x_forget (L' := [none, none, none, none, none]) [] rfl rfl ?_
        exact cont39 S_3 hRES
      · rw [if_pos c1] at hRES
        refine x_iload_n (pc' := 11) C dX5_copyCells_10 rfl rfl rfl ?_
        refine x_iload (pc' := 13) C dX5_copyCells_11 rfl rfl ?_
        refine x_RS (st := []) (st2 := [.int (bI (f_X4_isIn a3 (nI i4_3)))]) (pc' := 16) C (c_X4_isIn (kl k) (kg k) a3 (nI i4_3)) cw_X5_58 ok_X4_isIn (by decide) [] rfl rfl rfl (Nat.le_of_ble_eq_true rfl) (Nat.zero_le _) (Nat.zero_le _) rfl dX5_copyCells_13 rfl rfl ?_
        refine x_ifB_eq (tgt := 33) (pc' := 19) C dX5_copyCells_16 (by decide) rfl (fun c2 => ?_) (fun c2 => ?_)
        · rw [if_neg c2] at hRES
          refine x_iinc (pc' := 36) (v := (nI (i4_3 + 1))) (L' := [some (.ref h), some (.int a1), some (.int a2), some (.int a3), some (.int (nI (i4_3 + 1)))]) C dX5_copyCells_33 rfl rfl (nI_add i4_3 1) (Nat.le_of_ble_eq_true rfl) rfl ?_
          refine x_goto (tgt := 3) C dX5_copyCells_36 (by decide) ?_
          exact ih3 S_3 (i4_3 + 1) (by omega) (by omega) hRES
        · rw [if_pos c2] at hRES
          refine x_aload_n (pc' := 20) C dX5_copyCells_19 rfl rfl rfl ?_
          refine x_iload_n (pc' := 21) C dX5_copyCells_20 rfl rfl rfl ?_
          refine x_iload (pc' := 23) C dX5_copyCells_21 rfl rfl ?_
          refine x_aload_n (pc' := 24) C dX5_copyCells_23 rfl rfl rfl ?_
          refine x_iload_n (pc' := 25) C dX5_copyCells_24 rfl rfl rfl ?_
          refine x_iload (pc' := 27) C dX5_copyCells_25 rfl rfl ?_
          refine x_RV (st := [.int (nI i4_3), .int a2, .ref h]) (st2 := [.int (f_X5_numberIn S_3 a1 (nI i4_3)), .int (nI i4_3), .int a2, .ref h]) (pc' := 30) C (c_X5_numberIn (kl k) (kg k) h ad S_3 a1 (nI i4_3)) cw_X5_72 ok_X5_numberIn rfl (by decide) 0 rfl rfl [0, 1, 2, 3, 4] rfl rfl rfl (Nat.le_of_ble_eq_true rfl) (Nat.zero_le _) (Nat.zero_le _) rfl dX5_copyCells_27 rfl rfl ?_
          obtain ⟨z3, ez3⟩ : ∃ z, z = (f_X5_putNumber S_3 a2 (nI i4_3) (f_X5_numberIn S_3 a1 (nI i4_3))) := ⟨_, rfl⟩
          replace hRES := bd hRES z3 ez3
          have hc := c_X5_putNumber (kl k) (kg k) h ad S_3 a2 (nI i4_3) (f_X5_numberIn S_3 a1 (nI i4_3))
          rw [← ez3] at hc
          refine x_WV (st := []) (st2 := []) (pc' := 33) C B hc cw_X5_76 ok_X5_putNumber rfl (by decide) 0 rfl rfl [0, 1, 2, 3, 4] [] [0, 1, 2, 3, 4] (wSt (kg k) h ad z3) rfl rfl rfl rfl (by decide) rfl rfl rfl (Nat.le_of_ble_eq_true rfl) (Nat.zero_le _) (Nat.zero_le _) rfl dX5_copyCells_30 rfl rfl ?_
          refine x_iinc (pc' := 36) (v := (nI (i4_3 + 1))) (L' := [some (.ref h), some (.int a1), some (.int a2), some (.int a3), some (.int (nI (i4_3 + 1)))]) C dX5_copyCells_33 rfl rfl (nI_add i4_3 1) (Nat.le_of_ble_eq_true rfl) rfl ?_
          refine x_goto (tgt := 3) C dX5_copyCells_36 (by decide) ?_
          exact ih3 z3 (i4_3 + 1) (by omega) (by omega) hRES
  exact loop3 9 S 0 (by omega) (by omega) hRES

def f_X4_of (a1 : Int32) : Int32 := (1 <<< (a1 &&& 31))
set_option maxRecDepth 100000 in
set_option maxHeartbeats 8000000 in
theorem c_X4_of (l : Launch) (g : GT) (a1 : Int32) : CR l yX4_of (.code yX4_of cX4_of 1 (some .int)) 0 g [.int a1] ([]) (some (.int (f_X4_of a1))) := by
  obtain ⟨RES, hRES⟩ : ∃ z, z = (f_X4_of a1) := ⟨_, rfl⟩
  rw [← hRES]
  unfold f_X4_of at hRES
  refine CRx.of (nL := 1) (ret := (some .int)) (own := RX4) (cc := cX4_of) rfl (by decide) rfl (List.forall_mem_cons.mpr ⟨rfl, (fun _ h => absurd h List.not_mem_nil)⟩) (Nat.le_of_ble_eq_true rfl) ?_
  intro k C hkl hkg
  subst hkl; subst hkg
  refine x_loc2 (L' := [some (.int a1)]) rfl ?_
  refine x_iconst (v := 1) (pc' := 1) C dX4_of_0 rfl (by decide) ?_
  refine x_iload_n (pc' := 2) C dX4_of_1 rfl rfl rfl ?_
  refine x_ishl (pc' := 3) (v := (1 <<< (a1 &&& 31))) C dX4_of_2 rfl rfl ?_
  exact x_iret C (Nat.zero_le _) (Nat.zero_le _) dX4_of_3 (by rw [hRES])

def k_X5_unlikeCells_43 (x3_43 : Int32) : Int32 := x3_43
def l_X5_unlikeCells_5 (S : CS) (a1 : Int32) (a2 : Int32) : Nat → Int32 → Nat → Int32
  | 0, _, _ => 0
  | n5 + 1, x3_5, i4_5 => (if i4_5 < 8 then (if (f_X5_numberIn S a1 (nI i4_5)) = (f_X5_numberIn S a2 (nI i4_5)) then (l_X5_unlikeCells_5 S a1 a2 n5 x3_5 (i4_5 + 1)) else (l_X5_unlikeCells_5 S a1 a2 n5 (x3_5 ||| (f_X4_of (nI i4_5))) (i4_5 + 1))) else (k_X5_unlikeCells_43 x3_5))
def f_X5_unlikeCells (S : CS) (a1 : Int32) (a2 : Int32) : Int32 := (l_X5_unlikeCells_5 S a1 a2 9 0 0)
set_option maxRecDepth 100000 in
set_option maxHeartbeats 8000000 in
theorem c_X5_unlikeCells (l : Launch) (g : GT) (h : Nat) (ad : Nat → Nat) (S : CS) (a1 : Int32) (a2 : Int32) : CR l yX5_unlikeCells (.code yX5_unlikeCells cX5_unlikeCells 5 (some .int)) 2 g [.ref h, .int a1, .int a2] (wSt g h ad S) (some (.int (f_X5_unlikeCells S a1 a2))) := by
  obtain ⟨RES, hRES⟩ : ∃ z, z = (f_X5_unlikeCells S a1 a2) := ⟨_, rfl⟩
  rw [← hRES]
  unfold f_X5_unlikeCells at hRES
  refine CRx.of (nL := 5) (ret := (some .int)) (own := RX5) (cc := cX5_unlikeCells) rfl (by decide) rfl (List.forall_mem_cons.mpr ⟨rfl, (List.forall_mem_cons.mpr ⟨rfl, (List.forall_mem_cons.mpr ⟨rfl, (fun _ h => absurd h List.not_mem_nil)⟩)⟩)⟩) (Nat.le_of_ble_eq_true rfl) ?_
  intro k C hkl hkg
  subst hkl; subst hkg
  refine x_loc2 (L' := [some (.ref h), some (.int a1), some (.int a2), none, none]) rfl ?_
  refine x_iconst (v := 0) (pc' := 1) C dX5_unlikeCells_0 rfl (by decide) ?_
  refine x_istore_n (pc' := 2) (L' := [some (.ref h), some (.int a1), some (.int a2), some (.int 0), none]) C dX5_unlikeCells_1 rfl rfl (Nat.le_of_ble_eq_true rfl) rfl ?_
  refine x_iconst (v := 0) (pc' := 3) C dX5_unlikeCells_2 rfl (by decide) ?_
  refine x_istore (pc' := 5) (L' := [some (.ref h), some (.int a1), some (.int a2), some (.int 0), some (.int 0)]) C dX5_unlikeCells_3 rfl (Nat.le_of_ble_eq_true rfl) rfl ?_
  have cont43 : ∀ (x3_43 : Int32), RES = k_X5_unlikeCells_43 x3_43 → X k 0 0 (wSt (kg k) h ad S) 43 [none, none, none, some (.int x3_43), none] [] := by
    intro x3_43 hRES
    unfold k_X5_unlikeCells_43 at hRES
    refine x_iload_n (pc' := 44) C dX5_unlikeCells_43 rfl rfl rfl ?_
    exact x_iret C (Nat.zero_le _) (Nat.zero_le _) dX5_unlikeCells_44 (by rw [hRES])
  have loop5 : ∀ (n5 : Nat) (x3_5 : Int32) (i4_5 : Nat), i4_5 ≤ 8 → 8 < i4_5 + n5 → RES = l_X5_unlikeCells_5 S a1 a2 n5 x3_5 i4_5 → X k 0 0 (wSt (kg k) h ad S) 5 [some (.ref h), some (.int a1), some (.int a2), some (.int x3_5), some (.int (nI i4_5))] [] := by
    intro n5
    induction n5 with
    | zero =>
      intro x3_5 i4_5 hb5 hf5 hRES
      omega
    | succ n5 ih5 =>
      intro x3_5 i4_5 hb5 hf5 hRES
      rw [l_X5_unlikeCells_5] at hRES
      refine x_iload (pc' := 7) C dX5_unlikeCells_5 rfl rfl ?_
      refine x_bipush (v := 8) (pc' := 9) C dX5_unlikeCells_7 rfl (by decide) ?_
      refine x_icmpN_ge (tgt := 43) (pc' := 12) C i4_5 8 dX5_unlikeCells_9 (by decide) rfl (by omega) (by omega) (fun c1 => ?_) (fun c1 => ?_)
      · rw [if_neg c1] at hRES
        refine x_forget (L' := [none, none, none, some (.int x3_5), none]) [3] rfl rfl ?_
        exact cont43 x3_5 hRES
      · rw [if_pos c1] at hRES
        refine x_aload_n (pc' := 13) C dX5_unlikeCells_12 rfl rfl rfl ?_
        refine x_iload_n (pc' := 14) C dX5_unlikeCells_13 rfl rfl rfl ?_
        refine x_iload (pc' := 16) C dX5_unlikeCells_14 rfl rfl ?_
        refine x_RV (st := []) (st2 := [.int (f_X5_numberIn S a1 (nI i4_5))]) (pc' := 19) C (c_X5_numberIn (kl k) (kg k) h ad S a1 (nI i4_5)) cw_X5_72 ok_X5_numberIn rfl (by decide) 0 rfl rfl [0, 1, 2, 3, 4] rfl rfl rfl (Nat.le_of_ble_eq_true rfl) (Nat.zero_le _) (Nat.zero_le _) rfl dX5_unlikeCells_16 rfl rfl ?_
        refine x_aload_n (pc' := 20) C dX5_unlikeCells_19 rfl rfl rfl ?_
        refine x_iload_n (pc' := 21) C dX5_unlikeCells_20 rfl rfl rfl ?_
        refine x_iload (pc' := 23) C dX5_unlikeCells_21 rfl rfl ?_
        refine x_RV (st := [.int (f_X5_numberIn S a1 (nI i4_5))]) (st2 := [.int (f_X5_numberIn S a2 (nI i4_5)), .int (f_X5_numberIn S a1 (nI i4_5))]) (pc' := 26) C (c_X5_numberIn (kl k) (kg k) h ad S a2 (nI i4_5)) cw_X5_72 ok_X5_numberIn rfl (by decide) 0 rfl rfl [0, 1, 2, 3, 4] rfl rfl rfl (Nat.le_of_ble_eq_true rfl) (Nat.zero_le _) (Nat.zero_le _) rfl dX5_unlikeCells_23 rfl rfl ?_
        refine x_icmp_eq (tgt := 37) (pc' := 29) C dX5_unlikeCells_26 (by decide) rfl (fun c2 => ?_) (fun c2 => ?_)
        · rw [if_pos c2] at hRES
          refine x_iinc (pc' := 40) (v := (nI (i4_5 + 1))) (L' := [some (.ref h), some (.int a1), some (.int a2), some (.int x3_5), some (.int (nI (i4_5 + 1)))]) C dX5_unlikeCells_37 rfl rfl (nI_add i4_5 1) (Nat.le_of_ble_eq_true rfl) rfl ?_
          refine x_goto (tgt := 5) C dX5_unlikeCells_40 (by decide) ?_
          exact ih5 x3_5 (i4_5 + 1) (by omega) (by omega) hRES
        · rw [if_neg c2] at hRES
          refine x_iload_n (pc' := 30) C dX5_unlikeCells_29 rfl rfl rfl ?_
          refine x_iload (pc' := 32) C dX5_unlikeCells_30 rfl rfl ?_
          refine x_RS (st := [.int x3_5]) (st2 := [.int (f_X4_of (nI i4_5)), .int x3_5]) (pc' := 35) C (c_X4_of (kl k) (kg k) (nI i4_5)) cw_X5_80 ok_X4_of (by decide) [] rfl rfl rfl (Nat.le_of_ble_eq_true rfl) (Nat.zero_le _) (Nat.zero_le _) rfl dX5_unlikeCells_32 rfl rfl ?_
          refine x_ior (pc' := 36) (v := (x3_5 ||| (f_X4_of (nI i4_5)))) C dX5_unlikeCells_35 rfl rfl ?_
          refine x_istore_n (pc' := 37) (L' := [some (.ref h), some (.int a1), some (.int a2), some (.int (x3_5 ||| (f_X4_of (nI i4_5)))), some (.int (nI i4_5))]) C dX5_unlikeCells_36 rfl rfl (Nat.le_of_ble_eq_true rfl) rfl ?_
          refine x_iinc (pc' := 40) (v := (nI (i4_5 + 1))) (L' := [some (.ref h), some (.int a1), some (.int a2), some (.int (x3_5 ||| (f_X4_of (nI i4_5)))), some (.int (nI (i4_5 + 1)))]) C dX5_unlikeCells_37 rfl rfl (nI_add i4_5 1) (Nat.le_of_ble_eq_true rfl) rfl ?_
          refine x_goto (tgt := 5) C dX5_unlikeCells_40 (by decide) ?_
          exact ih5 (x3_5 ||| (f_X4_of (nI i4_5))) (i4_5 + 1) (by omega) (by omega) hRES
  exact loop5 9 0 0 (by omega) (by omega) hRES

def f_X5_keepDifference (S : CS) (a1 : Int32) : CS := (bind1 (setI S 1 (S.1 1 ||| (f_X4_of a1))) (fun z1 => z1))
set_option maxRecDepth 100000 in
set_option maxHeartbeats 8000000 in
theorem c_X5_keepDifference (l : Launch) (g : GT) (h : Nat) (ad : Nat → Nat) (S : CS) (a1 : Int32) : CW l yX5_keepDifference (.code yX5_keepDifference cX5_keepDifference 2 none) 1 g [.ref h, .int a1] (wSt g h ad S) none (wSt g h ad (f_X5_keepDifference S a1)) := by
  obtain ⟨RES, hRES⟩ : ∃ z, z = (f_X5_keepDifference S a1) := ⟨_, rfl⟩
  rw [← hRES]
  unfold f_X5_keepDifference at hRES
  refine CWx.of (nL := 2) (ret := none) (own := RX5) (cc := cX5_keepDifference) rfl (by decide) rfl (List.forall_mem_cons.mpr ⟨rfl, (List.forall_mem_cons.mpr ⟨rfl, (fun _ h => absurd h List.not_mem_nil)⟩)⟩) (Nat.le_of_ble_eq_true rfl) ?_
  intro k C B hin hkl hkg
  subst hkl; subst hkg
  refine x_loc2 (L' := [some (.ref h), some (.int a1)]) rfl ?_
  refine x_aload_n (pc' := 1) C dX5_keepDifference_0 rfl rfl rfl ?_
  refine x_dup (pc' := 2) C dX5_keepDifference_1 rfl rfl ?_
  refine x_get (pc' := 5) (v := .int (S.1 1)) C 0 1 inBX5 rfl rfl (by decide) fl_X5_37 rfl rfl dX5_keepDifference_2 rfl ?_
  refine x_iload_n (pc' := 6) C dX5_keepDifference_5 rfl rfl rfl ?_
  refine x_RS (st := [.int (S.1 1), .ref h]) (st2 := [.int (f_X4_of a1), .int (S.1 1), .ref h]) (pc' := 9) C (c_X4_of (kl k) (kg k) a1) cw_X5_80 ok_X4_of (by decide) [] rfl rfl rfl (Nat.le_of_ble_eq_true rfl) (Nat.zero_le _) (Nat.zero_le _) rfl dX5_keepDifference_6 rfl rfl ?_
  refine x_ior (pc' := 10) (v := (S.1 1 ||| (f_X4_of a1))) C dX5_keepDifference_9 rfl rfl ?_
  obtain ⟨z1, ez1⟩ : ∃ z, z = (setI S 1 (S.1 1 ||| (f_X4_of a1))) := ⟨_, rfl⟩
  replace hRES := bd hRES z1 ez1
  refine x_put (pc' := 13) (w' := wSt (kg k) h ad z1) (ty := .int) C B 0 1 inBX5 tyX5 tyX5_ok nmX5 rfl rfl (by decide) fl_X5_37 rfl rfl rfl rfl rfl (Nat.le_of_ble_eq_true rfl) dX5_keepDifference_10 rfl (by rw [ez1]; rfl) ?_
  exact x_vret C (Nat.zero_le _) (Nat.zero_le _) dX5_keepDifference_13 ⟨rfl, by rw [hRES]⟩

def f_X5_cutDifference (S : CS) (a1 : Int32) : CS := (bind1 (setI S 1 (S.1 1 &&& ((f_X4_of a1) ^^^ (-1)))) (fun z1 => z1))
set_option maxRecDepth 100000 in
set_option maxHeartbeats 8000000 in
theorem c_X5_cutDifference (l : Launch) (g : GT) (h : Nat) (ad : Nat → Nat) (S : CS) (a1 : Int32) : CW l yX5_cutDifference (.code yX5_cutDifference cX5_cutDifference 2 none) 1 g [.ref h, .int a1] (wSt g h ad S) none (wSt g h ad (f_X5_cutDifference S a1)) := by
  obtain ⟨RES, hRES⟩ : ∃ z, z = (f_X5_cutDifference S a1) := ⟨_, rfl⟩
  rw [← hRES]
  unfold f_X5_cutDifference at hRES
  refine CWx.of (nL := 2) (ret := none) (own := RX5) (cc := cX5_cutDifference) rfl (by decide) rfl (List.forall_mem_cons.mpr ⟨rfl, (List.forall_mem_cons.mpr ⟨rfl, (fun _ h => absurd h List.not_mem_nil)⟩)⟩) (Nat.le_of_ble_eq_true rfl) ?_
  intro k C B hin hkl hkg
  subst hkl; subst hkg
  refine x_loc2 (L' := [some (.ref h), some (.int a1)]) rfl ?_
  refine x_aload_n (pc' := 1) C dX5_cutDifference_0 rfl rfl rfl ?_
  refine x_dup (pc' := 2) C dX5_cutDifference_1 rfl rfl ?_
  refine x_get (pc' := 5) (v := .int (S.1 1)) C 0 1 inBX5 rfl rfl (by decide) fl_X5_37 rfl rfl dX5_cutDifference_2 rfl ?_
  refine x_iload_n (pc' := 6) C dX5_cutDifference_5 rfl rfl rfl ?_
  refine x_RS (st := [.int (S.1 1), .ref h]) (st2 := [.int (f_X4_of a1), .int (S.1 1), .ref h]) (pc' := 9) C (c_X4_of (kl k) (kg k) a1) cw_X5_80 ok_X4_of (by decide) [] rfl rfl rfl (Nat.le_of_ble_eq_true rfl) (Nat.zero_le _) (Nat.zero_le _) rfl dX5_cutDifference_6 rfl rfl ?_
  refine x_iconst (v := (-1)) (pc' := 10) C dX5_cutDifference_9 rfl (by decide) ?_
  refine x_ixor (pc' := 11) (v := ((f_X4_of a1) ^^^ (-1))) C dX5_cutDifference_10 rfl rfl ?_
  refine x_iand (pc' := 12) (v := (S.1 1 &&& ((f_X4_of a1) ^^^ (-1)))) C dX5_cutDifference_11 rfl rfl ?_
  obtain ⟨z1, ez1⟩ : ∃ z, z = (setI S 1 (S.1 1 &&& ((f_X4_of a1) ^^^ (-1)))) := ⟨_, rfl⟩
  replace hRES := bd hRES z1 ez1
  refine x_put (pc' := 15) (w' := wSt (kg k) h ad z1) (ty := .int) C B 0 1 inBX5 tyX5 tyX5_ok nmX5 rfl rfl (by decide) fl_X5_37 rfl rfl rfl rfl rfl (Nat.le_of_ble_eq_true rfl) dX5_cutDifference_12 rfl (by rw [ez1]; rfl) ?_
  exact x_vret C (Nat.zero_le _) (Nat.zero_le _) dX5_cutDifference_15 ⟨rfl, by rw [hRES]⟩

def f_X5_addRoot (S : CS) (a1 : Int32) : CS := (bind1 (setI S 2 (S.1 2 ||| (f_X4_of a1))) (fun z1 => z1))
set_option maxRecDepth 100000 in
set_option maxHeartbeats 8000000 in
theorem c_X5_addRoot (l : Launch) (g : GT) (h : Nat) (ad : Nat → Nat) (S : CS) (a1 : Int32) : CW l yX5_addRoot (.code yX5_addRoot cX5_addRoot 2 none) 1 g [.ref h, .int a1] (wSt g h ad S) none (wSt g h ad (f_X5_addRoot S a1)) := by
  obtain ⟨RES, hRES⟩ : ∃ z, z = (f_X5_addRoot S a1) := ⟨_, rfl⟩
  rw [← hRES]
  unfold f_X5_addRoot at hRES
  refine CWx.of (nL := 2) (ret := none) (own := RX5) (cc := cX5_addRoot) rfl (by decide) rfl (List.forall_mem_cons.mpr ⟨rfl, (List.forall_mem_cons.mpr ⟨rfl, (fun _ h => absurd h List.not_mem_nil)⟩)⟩) (Nat.le_of_ble_eq_true rfl) ?_
  intro k C B hin hkl hkg
  subst hkl; subst hkg
  refine x_loc2 (L' := [some (.ref h), some (.int a1)]) rfl ?_
  refine x_aload_n (pc' := 1) C dX5_addRoot_0 rfl rfl rfl ?_
  refine x_dup (pc' := 2) C dX5_addRoot_1 rfl rfl ?_
  refine x_get (pc' := 5) (v := .int (S.1 2)) C 0 2 inBX5 rfl rfl (by decide) fl_X5_15 rfl rfl dX5_addRoot_2 rfl ?_
  refine x_iload_n (pc' := 6) C dX5_addRoot_5 rfl rfl rfl ?_
  refine x_RS (st := [.int (S.1 2), .ref h]) (st2 := [.int (f_X4_of a1), .int (S.1 2), .ref h]) (pc' := 9) C (c_X4_of (kl k) (kg k) a1) cw_X5_80 ok_X4_of (by decide) [] rfl rfl rfl (Nat.le_of_ble_eq_true rfl) (Nat.zero_le _) (Nat.zero_le _) rfl dX5_addRoot_6 rfl rfl ?_
  refine x_ior (pc' := 10) (v := (S.1 2 ||| (f_X4_of a1))) C dX5_addRoot_9 rfl rfl ?_
  obtain ⟨z1, ez1⟩ : ∃ z, z = (setI S 2 (S.1 2 ||| (f_X4_of a1))) := ⟨_, rfl⟩
  replace hRES := bd hRES z1 ez1
  refine x_put (pc' := 13) (w' := wSt (kg k) h ad z1) (ty := .int) C B 0 2 inBX5 tyX5 tyX5_ok nmX5 rfl rfl (by decide) fl_X5_15 rfl rfl rfl rfl rfl (Nat.le_of_ble_eq_true rfl) dX5_addRoot_10 rfl (by rw [ez1]; rfl) ?_
  exact x_vret C (Nat.zero_le _) (Nat.zero_le _) dX5_addRoot_13 ⟨rfl, by rw [hRES]⟩

def f_X5_dropRoot (S : CS) (a1 : Int32) : CS := (bind1 (setI S 2 (S.1 2 &&& ((f_X4_of a1) ^^^ (-1)))) (fun z1 => z1))
set_option maxRecDepth 100000 in
set_option maxHeartbeats 8000000 in
theorem c_X5_dropRoot (l : Launch) (g : GT) (h : Nat) (ad : Nat → Nat) (S : CS) (a1 : Int32) : CW l yX5_dropRoot (.code yX5_dropRoot cX5_dropRoot 2 none) 1 g [.ref h, .int a1] (wSt g h ad S) none (wSt g h ad (f_X5_dropRoot S a1)) := by
  obtain ⟨RES, hRES⟩ : ∃ z, z = (f_X5_dropRoot S a1) := ⟨_, rfl⟩
  rw [← hRES]
  unfold f_X5_dropRoot at hRES
  refine CWx.of (nL := 2) (ret := none) (own := RX5) (cc := cX5_dropRoot) rfl (by decide) rfl (List.forall_mem_cons.mpr ⟨rfl, (List.forall_mem_cons.mpr ⟨rfl, (fun _ h => absurd h List.not_mem_nil)⟩)⟩) (Nat.le_of_ble_eq_true rfl) ?_
  intro k C B hin hkl hkg
  subst hkl; subst hkg
  refine x_loc2 (L' := [some (.ref h), some (.int a1)]) rfl ?_
  refine x_aload_n (pc' := 1) C dX5_dropRoot_0 rfl rfl rfl ?_
  refine x_dup (pc' := 2) C dX5_dropRoot_1 rfl rfl ?_
  refine x_get (pc' := 5) (v := .int (S.1 2)) C 0 2 inBX5 rfl rfl (by decide) fl_X5_15 rfl rfl dX5_dropRoot_2 rfl ?_
  refine x_iload_n (pc' := 6) C dX5_dropRoot_5 rfl rfl rfl ?_
  refine x_RS (st := [.int (S.1 2), .ref h]) (st2 := [.int (f_X4_of a1), .int (S.1 2), .ref h]) (pc' := 9) C (c_X4_of (kl k) (kg k) a1) cw_X5_80 ok_X4_of (by decide) [] rfl rfl rfl (Nat.le_of_ble_eq_true rfl) (Nat.zero_le _) (Nat.zero_le _) rfl dX5_dropRoot_6 rfl rfl ?_
  refine x_iconst (v := (-1)) (pc' := 10) C dX5_dropRoot_9 rfl (by decide) ?_
  refine x_ixor (pc' := 11) (v := ((f_X4_of a1) ^^^ (-1))) C dX5_dropRoot_10 rfl rfl ?_
  refine x_iand (pc' := 12) (v := (S.1 2 &&& ((f_X4_of a1) ^^^ (-1)))) C dX5_dropRoot_11 rfl rfl ?_
  obtain ⟨z1, ez1⟩ : ∃ z, z = (setI S 2 (S.1 2 &&& ((f_X4_of a1) ^^^ (-1)))) := ⟨_, rfl⟩
  replace hRES := bd hRES z1 ez1
  refine x_put (pc' := 15) (w' := wSt (kg k) h ad z1) (ty := .int) C B 0 2 inBX5 tyX5 tyX5_ok nmX5 rfl rfl (by decide) fl_X5_15 rfl rfl rfl rfl rfl (Nat.le_of_ble_eq_true rfl) dX5_dropRoot_12 rfl (by rw [ez1]; rfl) ?_
  exact x_vret C (Nat.zero_le _) (Nat.zero_le _) dX5_dropRoot_15 ⟨rfl, by rw [hRES]⟩

def f_X5_moveRoot (S : CS) (a1 : Int32) (a2 : Int32) : CS := (bind1 (f_X5_dropRoot S a1) (fun z1 => (bind1 (f_X5_addRoot z1 a2) (fun z2 => z2))))
set_option maxRecDepth 100000 in
set_option maxHeartbeats 8000000 in
theorem c_X5_moveRoot (l : Launch) (g : GT) (h : Nat) (ad : Nat → Nat) (S : CS) (a1 : Int32) (a2 : Int32) : CW l yX5_moveRoot (.code yX5_moveRoot cX5_moveRoot 3 none) 2 g [.ref h, .int a1, .int a2] (wSt g h ad S) none (wSt g h ad (f_X5_moveRoot S a1 a2)) := by
  obtain ⟨RES, hRES⟩ : ∃ z, z = (f_X5_moveRoot S a1 a2) := ⟨_, rfl⟩
  rw [← hRES]
  unfold f_X5_moveRoot at hRES
  refine CWx.of (nL := 3) (ret := none) (own := RX5) (cc := cX5_moveRoot) rfl (by decide) rfl (List.forall_mem_cons.mpr ⟨rfl, (List.forall_mem_cons.mpr ⟨rfl, (List.forall_mem_cons.mpr ⟨rfl, (fun _ h => absurd h List.not_mem_nil)⟩)⟩)⟩) (Nat.le_of_ble_eq_true rfl) ?_
  intro k C B hin hkl hkg
  subst hkl; subst hkg
  refine x_loc2 (L' := [some (.ref h), some (.int a1), some (.int a2)]) rfl ?_
  refine x_aload_n (pc' := 1) C dX5_moveRoot_0 rfl rfl rfl ?_
  refine x_iload_n (pc' := 2) C dX5_moveRoot_1 rfl rfl rfl ?_
  obtain ⟨z1, ez1⟩ : ∃ z, z = (f_X5_dropRoot S a1) := ⟨_, rfl⟩
  replace hRES := bd hRES z1 ez1
  have hc := c_X5_dropRoot (kl k) (kg k) h ad S a1
  rw [← ez1] at hc
  refine x_WV (st := []) (st2 := []) (pc' := 5) C B hc cw_X5_94 ok_X5_dropRoot rfl (by decide) 0 rfl rfl [0, 1, 2, 3, 4] [] [0, 1, 2, 3, 4] (wSt (kg k) h ad z1) rfl rfl rfl rfl (by decide) rfl rfl rfl (Nat.le_of_ble_eq_true rfl) (Nat.zero_le _) (Nat.zero_le _) rfl dX5_moveRoot_2 rfl rfl ?_
  refine x_aload_n (pc' := 6) C dX5_moveRoot_5 rfl rfl rfl ?_
  refine x_iload_n (pc' := 7) C dX5_moveRoot_6 rfl rfl rfl ?_
  obtain ⟨z2, ez2⟩ : ∃ z, z = (f_X5_addRoot z1 a2) := ⟨_, rfl⟩
  replace hRES := bd hRES z2 ez2
  have hc := c_X5_addRoot (kl k) (kg k) h ad z1 a2
  rw [← ez2] at hc
  refine x_WV (st := []) (st2 := []) (pc' := 10) C B hc cw_X5_100 ok_X5_addRoot rfl (by decide) 0 rfl rfl [0, 1, 2, 3, 4] [] [0, 1, 2, 3, 4] (wSt (kg k) h ad z2) rfl rfl rfl rfl (by decide) rfl rfl rfl (Nat.le_of_ble_eq_true rfl) (Nat.zero_le _) (Nat.zero_le _) rfl dX5_moveRoot_7 rfl rfl ?_
  exact x_vret C (Nat.zero_le _) (Nat.zero_le _) dX5_moveRoot_10 ⟨rfl, by rw [hRES]⟩

def f_X5_hang (S : CS) (a1 : Int32) (a2 : Int32) : CS := (bind1 (setI S 0 (S.1 0 ||| (f_X4_of a1))) (fun z1 => (bind1 (setF z1 3 (f_X3_put 24 (z1.2 3) a1 a2)) (fun z2 => (bind1 (setF z2 4 (f_X3_put 24 (z2.2 4) a1 (f_X5_unlikeCells z2 a1 a2))) (fun z3 => (bind1 (setF z3 5 (f_X3_put 24 (z3.2 5) a1 0)) (fun z4 => (bind1 (f_X5_keepDifference z4 a1) (fun z5 => z5))))))))))
set_option maxRecDepth 100000 in
set_option maxHeartbeats 8000000 in
theorem c_X5_hang (l : Launch) (g : GT) (h : Nat) (ad : Nat → Nat) (S : CS) (a1 : Int32) (a2 : Int32) : CW l yX5_hang (.code yX5_hang cX5_hang 3 none) 3 g [.ref h, .int a1, .int a2] (wSt g h ad S) none (wSt g h ad (f_X5_hang S a1 a2)) := by
  obtain ⟨RES, hRES⟩ : ∃ z, z = (f_X5_hang S a1 a2) := ⟨_, rfl⟩
  rw [← hRES]
  unfold f_X5_hang at hRES
  refine CWx.of (nL := 3) (ret := none) (own := RX5) (cc := cX5_hang) rfl (by decide) rfl (List.forall_mem_cons.mpr ⟨rfl, (List.forall_mem_cons.mpr ⟨rfl, (List.forall_mem_cons.mpr ⟨rfl, (fun _ h => absurd h List.not_mem_nil)⟩)⟩)⟩) (Nat.le_of_ble_eq_true rfl) ?_
  intro k C B hin hkl hkg
  subst hkl; subst hkg
  refine x_loc2 (L' := [some (.ref h), some (.int a1), some (.int a2)]) rfl ?_
  refine x_aload_n (pc' := 1) C dX5_hang_0 rfl rfl rfl ?_
  refine x_dup (pc' := 2) C dX5_hang_1 rfl rfl ?_
  refine x_get (pc' := 5) (v := .int (S.1 0)) C 0 0 inBX5 rfl rfl (by decide) fl_X5_9 rfl rfl dX5_hang_2 rfl ?_
  refine x_iload_n (pc' := 6) C dX5_hang_5 rfl rfl rfl ?_
  refine x_RS (st := [.int (S.1 0), .ref h]) (st2 := [.int (f_X4_of a1), .int (S.1 0), .ref h]) (pc' := 9) C (c_X4_of (kl k) (kg k) a1) cw_X5_80 ok_X4_of (by decide) [] rfl rfl rfl (Nat.le_of_ble_eq_true rfl) (Nat.zero_le _) (Nat.zero_le _) rfl dX5_hang_6 rfl rfl ?_
  refine x_ior (pc' := 10) (v := (S.1 0 ||| (f_X4_of a1))) C dX5_hang_9 rfl rfl ?_
  obtain ⟨z1, ez1⟩ : ∃ z, z = (setI S 0 (S.1 0 ||| (f_X4_of a1))) := ⟨_, rfl⟩
  replace hRES := bd hRES z1 ez1
  refine x_put (pc' := 13) (w' := wSt (kg k) h ad z1) (ty := .int) C B 0 0 inBX5 tyX5 tyX5_ok nmX5 rfl rfl (by decide) fl_X5_9 rfl rfl rfl rfl rfl (Nat.le_of_ble_eq_true rfl) dX5_hang_10 rfl (by rw [ez1]; rfl) ?_
  refine x_aload_n (pc' := 14) C dX5_hang_13 rfl rfl rfl ?_
  refine x_get (pc' := 17) (v := .ref (ad 3)) C 0 3 inBX5 rfl rfl (by decide) fl_X5_18 rfl rfl dX5_hang_14 rfl ?_
  refine x_iload_n (pc' := 18) C dX5_hang_17 rfl rfl rfl ?_
  refine x_iload_n (pc' := 19) C dX5_hang_18 rfl rfl rfl ?_
  obtain ⟨z2, ez2⟩ : ∃ z, z = (setF z1 3 (f_X3_put 24 (z1.2 3) a1 a2)) := ⟨_, rfl⟩
  replace hRES := bd hRES z2 ez2
  refine x_WS (st := []) (st2 := []) (pc' := 22) C B (c_X3_put (kl k) (kg k) (ad 3) 24 (z1.2 3) a1 a2 (by decide)) cw_X5_68 ok_X3_put (by decide) [1] [0, 2, 3, 4] [0, 4, 1, 2, 3] (wSt (kg k) h ad z2) rfl rfl rfl rfl (by decide) rfl (by rw [ez2]; rfl) rfl (Nat.le_of_ble_eq_true rfl) (Nat.zero_le _) (Nat.zero_le _) rfl dX5_hang_19 rfl rfl ?_
  refine x_aload_n (pc' := 23) C dX5_hang_22 rfl rfl rfl ?_
  refine x_get (pc' := 26) (v := .ref (ad 4)) C 0 4 inBX5 rfl rfl (by decide) fl_X5_22 rfl rfl dX5_hang_23 rfl ?_
  refine x_iload_n (pc' := 27) C dX5_hang_26 rfl rfl rfl ?_
  refine x_aload_n (pc' := 28) C dX5_hang_27 rfl rfl rfl ?_
  refine x_iload_n (pc' := 29) C dX5_hang_28 rfl rfl rfl ?_
  refine x_iload_n (pc' := 30) C dX5_hang_29 rfl rfl rfl ?_
  refine x_RV (st := [.int a1, .ref (ad 4)]) (st2 := [.int (f_X5_unlikeCells z2 a1 a2), .int a1, .ref (ad 4)]) (pc' := 33) C (c_X5_unlikeCells (kl k) (kg k) h ad z2 a1 a2) cw_X5_84 ok_X5_unlikeCells rfl (by decide) 0 rfl rfl [0, 1, 2, 3, 4] rfl rfl rfl (Nat.le_of_ble_eq_true rfl) (Nat.zero_le _) (Nat.zero_le _) rfl dX5_hang_30 rfl rfl ?_
  obtain ⟨z3, ez3⟩ : ∃ z, z = (setF z2 4 (f_X3_put 24 (z2.2 4) a1 (f_X5_unlikeCells z2 a1 a2))) := ⟨_, rfl⟩
  replace hRES := bd hRES z3 ez3
  refine x_WS (st := []) (st2 := []) (pc' := 36) C B (c_X3_put (kl k) (kg k) (ad 4) 24 (z2.2 4) a1 (f_X5_unlikeCells z2 a1 a2) (by decide)) cw_X5_68 ok_X3_put (by decide) [2] [0, 1, 3, 4] [0, 1, 4, 2, 3] (wSt (kg k) h ad z3) rfl rfl rfl rfl (by decide) rfl (by rw [ez3]; rfl) rfl (Nat.le_of_ble_eq_true rfl) (Nat.zero_le _) (Nat.zero_le _) rfl dX5_hang_33 rfl rfl ?_
  refine x_aload_n (pc' := 37) C dX5_hang_36 rfl rfl rfl ?_
  refine x_get (pc' := 40) (v := .ref (ad 5)) C 0 5 inBX5 rfl rfl (by decide) fl_X5_25 rfl rfl dX5_hang_37 rfl ?_
  refine x_iload_n (pc' := 41) C dX5_hang_40 rfl rfl rfl ?_
  refine x_iconst (v := 0) (pc' := 42) C dX5_hang_41 rfl (by decide) ?_
  obtain ⟨z4, ez4⟩ : ∃ z, z = (setF z3 5 (f_X3_put 24 (z3.2 5) a1 0)) := ⟨_, rfl⟩
  replace hRES := bd hRES z4 ez4
  refine x_WS (st := []) (st2 := []) (pc' := 45) C B (c_X3_put (kl k) (kg k) (ad 5) 24 (z3.2 5) a1 0 (by decide)) cw_X5_68 ok_X3_put (by decide) [3] [0, 1, 2, 4] [0, 1, 2, 4, 3] (wSt (kg k) h ad z4) rfl rfl rfl rfl (by decide) rfl (by rw [ez4]; rfl) rfl (Nat.le_of_ble_eq_true rfl) (Nat.zero_le _) (Nat.zero_le _) rfl dX5_hang_42 rfl rfl ?_
  refine x_aload_n (pc' := 46) C dX5_hang_45 rfl rfl rfl ?_
  refine x_iload_n (pc' := 47) C dX5_hang_46 rfl rfl rfl ?_
  obtain ⟨z5, ez5⟩ : ∃ z, z = (f_X5_keepDifference z4 a1) := ⟨_, rfl⟩
  replace hRES := bd hRES z5 ez5
  have hc := c_X5_keepDifference (kl k) (kg k) h ad z4 a1
  rw [← ez5] at hc
  refine x_WV (st := []) (st2 := []) (pc' := 50) C B hc cw_X5_87 ok_X5_keepDifference rfl (by decide) 0 rfl rfl [0, 1, 2, 3, 4] [] [0, 1, 2, 3, 4] (wSt (kg k) h ad z5) rfl rfl rfl rfl (by decide) rfl rfl rfl (Nat.le_of_ble_eq_true rfl) (Nat.zero_le _) (Nat.zero_le _) rfl dX5_hang_47 rfl rfl ?_
  exact x_vret C (Nat.zero_le _) (Nat.zero_le _) dX5_hang_50 ⟨rfl, by rw [hRES]⟩

def f_X5_drop (S : CS) (a1 : Int32) : CS := (bind1 (setI S 0 (S.1 0 &&& ((f_X4_of a1) ^^^ (-1)))) (fun z1 => (bind1 (f_X5_cutDifference z1 a1) (fun z2 => (bind1 (f_X5_dropRoot z2 a1) (fun z3 => z3))))))
set_option maxRecDepth 100000 in
set_option maxHeartbeats 8000000 in
theorem c_X5_drop (l : Launch) (g : GT) (h : Nat) (ad : Nat → Nat) (S : CS) (a1 : Int32) : CW l yX5_drop (.code yX5_drop cX5_drop 2 none) 2 g [.ref h, .int a1] (wSt g h ad S) none (wSt g h ad (f_X5_drop S a1)) := by
  obtain ⟨RES, hRES⟩ : ∃ z, z = (f_X5_drop S a1) := ⟨_, rfl⟩
  rw [← hRES]
  unfold f_X5_drop at hRES
  refine CWx.of (nL := 2) (ret := none) (own := RX5) (cc := cX5_drop) rfl (by decide) rfl (List.forall_mem_cons.mpr ⟨rfl, (List.forall_mem_cons.mpr ⟨rfl, (fun _ h => absurd h List.not_mem_nil)⟩)⟩) (Nat.le_of_ble_eq_true rfl) ?_
  intro k C B hin hkl hkg
  subst hkl; subst hkg
  refine x_loc2 (L' := [some (.ref h), some (.int a1)]) rfl ?_
  refine x_aload_n (pc' := 1) C dX5_drop_0 rfl rfl rfl ?_
  refine x_dup (pc' := 2) C dX5_drop_1 rfl rfl ?_
  refine x_get (pc' := 5) (v := .int (S.1 0)) C 0 0 inBX5 rfl rfl (by decide) fl_X5_9 rfl rfl dX5_drop_2 rfl ?_
  refine x_iload_n (pc' := 6) C dX5_drop_5 rfl rfl rfl ?_
  refine x_RS (st := [.int (S.1 0), .ref h]) (st2 := [.int (f_X4_of a1), .int (S.1 0), .ref h]) (pc' := 9) C (c_X4_of (kl k) (kg k) a1) cw_X5_80 ok_X4_of (by decide) [] rfl rfl rfl (Nat.le_of_ble_eq_true rfl) (Nat.zero_le _) (Nat.zero_le _) rfl dX5_drop_6 rfl rfl ?_
  refine x_iconst (v := (-1)) (pc' := 10) C dX5_drop_9 rfl (by decide) ?_
  refine x_ixor (pc' := 11) (v := ((f_X4_of a1) ^^^ (-1))) C dX5_drop_10 rfl rfl ?_
  refine x_iand (pc' := 12) (v := (S.1 0 &&& ((f_X4_of a1) ^^^ (-1)))) C dX5_drop_11 rfl rfl ?_
  obtain ⟨z1, ez1⟩ : ∃ z, z = (setI S 0 (S.1 0 &&& ((f_X4_of a1) ^^^ (-1)))) := ⟨_, rfl⟩
  replace hRES := bd hRES z1 ez1
  refine x_put (pc' := 15) (w' := wSt (kg k) h ad z1) (ty := .int) C B 0 0 inBX5 tyX5 tyX5_ok nmX5 rfl rfl (by decide) fl_X5_9 rfl rfl rfl rfl rfl (Nat.le_of_ble_eq_true rfl) dX5_drop_12 rfl (by rw [ez1]; rfl) ?_
  refine x_aload_n (pc' := 16) C dX5_drop_15 rfl rfl rfl ?_
  refine x_iload_n (pc' := 17) C dX5_drop_16 rfl rfl rfl ?_
  obtain ⟨z2, ez2⟩ : ∃ z, z = (f_X5_cutDifference z1 a1) := ⟨_, rfl⟩
  replace hRES := bd hRES z2 ez2
  have hc := c_X5_cutDifference (kl k) (kg k) h ad z1 a1
  rw [← ez2] at hc
  refine x_WV (st := []) (st2 := []) (pc' := 20) C B hc cw_X5_91 ok_X5_cutDifference rfl (by decide) 0 rfl rfl [0, 1, 2, 3, 4] [] [0, 1, 2, 3, 4] (wSt (kg k) h ad z2) rfl rfl rfl rfl (by decide) rfl rfl rfl (Nat.le_of_ble_eq_true rfl) (Nat.zero_le _) (Nat.zero_le _) rfl dX5_drop_17 rfl rfl ?_
  refine x_aload_n (pc' := 21) C dX5_drop_20 rfl rfl rfl ?_
  refine x_iload_n (pc' := 22) C dX5_drop_21 rfl rfl rfl ?_
  obtain ⟨z3, ez3⟩ : ∃ z, z = (f_X5_dropRoot z2 a1) := ⟨_, rfl⟩
  replace hRES := bd hRES z3 ez3
  have hc := c_X5_dropRoot (kl k) (kg k) h ad z2 a1
  rw [← ez3] at hc
  refine x_WV (st := []) (st2 := []) (pc' := 25) C B hc cw_X5_94 ok_X5_dropRoot rfl (by decide) 0 rfl rfl [0, 1, 2, 3, 4] [] [0, 1, 2, 3, 4] (wSt (kg k) h ad z3) rfl rfl rfl rfl (by decide) rfl rfl rfl (Nat.le_of_ble_eq_true rfl) (Nat.zero_le _) (Nat.zero_le _) rfl dX5_drop_22 rfl rfl ?_
  exact x_vret C (Nat.zero_le _) (Nat.zero_le _) dX5_drop_25 ⟨rfl, by rw [hRES]⟩

def f_X5_cutBetween (S : CS) (a1 : Int32) (a2 : Int32) : CS := (if a1 = 0 then (bind1 (f_X5_cutDifference S a2) (fun z3 => z3)) else (if (f_X5_sourceOf S a1) = a2 then (bind1 (f_X5_cutDifference S a1) (fun z8 => z8)) else (bind1 (f_X5_cutDifference S a2) (fun z6 => z6))))
set_option maxRecDepth 100000 in
set_option maxHeartbeats 8000000 in
theorem c_X5_cutBetween (l : Launch) (g : GT) (h : Nat) (ad : Nat → Nat) (S : CS) (a1 : Int32) (a2 : Int32) : CW l yX5_cutBetween (.code yX5_cutBetween cX5_cutBetween 4 none) 2 g [.ref h, .int a1, .int a2] (wSt g h ad S) none (wSt g h ad (f_X5_cutBetween S a1 a2)) := by
  obtain ⟨RES, hRES⟩ : ∃ z, z = (f_X5_cutBetween S a1 a2) := ⟨_, rfl⟩
  rw [← hRES]
  unfold f_X5_cutBetween at hRES
  refine CWx.of (nL := 4) (ret := none) (own := RX5) (cc := cX5_cutBetween) rfl (by decide) rfl (List.forall_mem_cons.mpr ⟨rfl, (List.forall_mem_cons.mpr ⟨rfl, (List.forall_mem_cons.mpr ⟨rfl, (fun _ h => absurd h List.not_mem_nil)⟩)⟩)⟩) (Nat.le_of_ble_eq_true rfl) ?_
  intro k C B hin hkl hkg
  subst hkl; subst hkg
  refine x_loc2 (L' := [some (.ref h), some (.int a1), some (.int a2), none]) rfl ?_
  refine x_iload_n (pc' := 1) C dX5_cutBetween_0 rfl rfl rfl ?_
  refine x_if_eq (tgt := 17) (pc' := 4) C dX5_cutBetween_1 (by decide) rfl (fun c1 => ?_) (fun c1 => ?_)
  · rw [if_pos c1] at hRES
    refine x_iconst (v := 0) (pc' := 18) C dX5_cutBetween_17 rfl (by decide) ?_
    refine x_istore_n (pc' := 19) (L' := [some (.ref h), some (.int a1), some (.int a2), some (.int 0)]) C dX5_cutBetween_18 rfl rfl (Nat.le_of_ble_eq_true rfl) rfl ?_
    refine x_aload_n (pc' := 20) C dX5_cutBetween_19 rfl rfl rfl ?_
    refine x_iload_n (pc' := 21) C dX5_cutBetween_20 rfl rfl rfl ?_
    refine x_if_eq (tgt := 28) (pc' := 24) C dX5_cutBetween_21 (by decide) rfl (fun c2 => ?_) (fun c2 => absurd c2 (by decide))
    refine x_iload_n (pc' := 29) C dX5_cutBetween_28 rfl rfl rfl ?_
    obtain ⟨z3, ez3⟩ : ∃ z, z = (f_X5_cutDifference S a2) := ⟨_, rfl⟩
    replace hRES := bd hRES z3 ez3
    have hc := c_X5_cutDifference (kl k) (kg k) h ad S a2
    rw [← ez3] at hc
    refine x_WV (st := []) (st2 := []) (pc' := 32) C B hc cw_X5_91 ok_X5_cutDifference rfl (by decide) 0 rfl rfl [0, 1, 2, 3, 4] [] [0, 1, 2, 3, 4] (wSt (kg k) h ad z3) rfl rfl rfl rfl (by decide) rfl rfl rfl (Nat.le_of_ble_eq_true rfl) (Nat.zero_le _) (Nat.zero_le _) rfl dX5_cutBetween_29 rfl rfl ?_
    exact x_vret C (Nat.zero_le _) (Nat.zero_le _) dX5_cutBetween_32 ⟨rfl, by rw [hRES]⟩
  · rw [if_neg c1] at hRES
    refine x_aload_n (pc' := 5) C dX5_cutBetween_4 rfl rfl rfl ?_
    refine x_iload_n (pc' := 6) C dX5_cutBetween_5 rfl rfl rfl ?_
    refine x_RV (st := []) (st2 := [.int (f_X5_sourceOf S a1)]) (pc' := 9) C (c_X5_sourceOf (kl k) (kg k) h ad S a1) cw_X5_97 ok_X5_sourceOf rfl (by decide) 0 rfl rfl [0, 1, 2, 3, 4] rfl rfl rfl (Nat.le_of_ble_eq_true rfl) (Nat.zero_le _) (Nat.zero_le _) rfl dX5_cutBetween_6 rfl rfl ?_
    refine x_iload_n (pc' := 10) C dX5_cutBetween_9 rfl rfl rfl ?_
    refine x_icmp_ne (tgt := 17) (pc' := 13) C dX5_cutBetween_10 (by decide) rfl (fun c4 => ?_) (fun c4 => ?_)
    · rw [if_neg c4] at hRES
      refine x_iconst (v := 0) (pc' := 18) C dX5_cutBetween_17 rfl (by decide) ?_
      refine x_istore_n (pc' := 19) (L' := [some (.ref h), some (.int a1), some (.int a2), some (.int 0)]) C dX5_cutBetween_18 rfl rfl (Nat.le_of_ble_eq_true rfl) rfl ?_
      refine x_aload_n (pc' := 20) C dX5_cutBetween_19 rfl rfl rfl ?_
      refine x_iload_n (pc' := 21) C dX5_cutBetween_20 rfl rfl rfl ?_
      refine x_if_eq (tgt := 28) (pc' := 24) C dX5_cutBetween_21 (by decide) rfl (fun c5 => ?_) (fun c5 => absurd c5 (by decide))
      refine x_iload_n (pc' := 29) C dX5_cutBetween_28 rfl rfl rfl ?_
      obtain ⟨z6, ez6⟩ : ∃ z, z = (f_X5_cutDifference S a2) := ⟨_, rfl⟩
      replace hRES := bd hRES z6 ez6
      have hc := c_X5_cutDifference (kl k) (kg k) h ad S a2
      rw [← ez6] at hc
      refine x_WV (st := []) (st2 := []) (pc' := 32) C B hc cw_X5_91 ok_X5_cutDifference rfl (by decide) 0 rfl rfl [0, 1, 2, 3, 4] [] [0, 1, 2, 3, 4] (wSt (kg k) h ad z6) rfl rfl rfl rfl (by decide) rfl rfl rfl (Nat.le_of_ble_eq_true rfl) (Nat.zero_le _) (Nat.zero_le _) rfl dX5_cutBetween_29 rfl rfl ?_
      exact x_vret C (Nat.zero_le _) (Nat.zero_le _) dX5_cutBetween_32 ⟨rfl, by rw [hRES]⟩
    · rw [if_pos c4] at hRES
      refine x_iconst (v := 1) (pc' := 14) C dX5_cutBetween_13 rfl (by decide) ?_
      refine x_goto (tgt := 18) C dX5_cutBetween_14 (by decide) ?_
      refine x_istore_n (pc' := 19) (L' := [some (.ref h), some (.int a1), some (.int a2), some (.int 1)]) C dX5_cutBetween_18 rfl rfl (Nat.le_of_ble_eq_true rfl) rfl ?_
      refine x_aload_n (pc' := 20) C dX5_cutBetween_19 rfl rfl rfl ?_
      refine x_iload_n (pc' := 21) C dX5_cutBetween_20 rfl rfl rfl ?_
      refine x_if_eq (tgt := 28) (pc' := 24) C dX5_cutBetween_21 (by decide) rfl (fun c7 => absurd c7 (by decide)) (fun c7 => ?_)
      refine x_iload_n (pc' := 25) C dX5_cutBetween_24 rfl rfl rfl ?_
      refine x_goto (tgt := 29) C dX5_cutBetween_25 (by decide) ?_
      obtain ⟨z8, ez8⟩ : ∃ z, z = (f_X5_cutDifference S a1) := ⟨_, rfl⟩
      replace hRES := bd hRES z8 ez8
      have hc := c_X5_cutDifference (kl k) (kg k) h ad S a1
      rw [← ez8] at hc
      refine x_WV (st := []) (st2 := []) (pc' := 32) C B hc cw_X5_91 ok_X5_cutDifference rfl (by decide) 0 rfl rfl [0, 1, 2, 3, 4] [] [0, 1, 2, 3, 4] (wSt (kg k) h ad z8) rfl rfl rfl rfl (by decide) rfl rfl rfl (Nat.le_of_ble_eq_true rfl) (Nat.zero_le _) (Nat.zero_le _) rfl dX5_cutBetween_29 rfl rfl ?_
      exact x_vret C (Nat.zero_le _) (Nat.zero_le _) dX5_cutBetween_32 ⟨rfl, by rw [hRES]⟩

def f_X5_noteAsking (S : CS) (a1 : Int32) (a2 : Int32) : CS := (bind1 (setF S 5 (f_X3_put 24 (S.2 5) a1 ((f_X5_askedFor S a1) + 1))) (fun z1 => (bind1 (setI z1 9 (z1.1 9 + 1)) (fun z2 => (bind1 (setI z2 10 (z2.1 10 + a2)) (fun z3 => z3))))))
set_option maxRecDepth 100000 in
set_option maxHeartbeats 8000000 in
theorem c_X5_noteAsking (l : Launch) (g : GT) (h : Nat) (ad : Nat → Nat) (S : CS) (a1 : Int32) (a2 : Int32) : CW l yX5_noteAsking (.code yX5_noteAsking cX5_noteAsking 3 none) 2 g [.ref h, .int a1, .int a2] (wSt g h ad S) none (wSt g h ad (f_X5_noteAsking S a1 a2)) := by
  obtain ⟨RES, hRES⟩ : ∃ z, z = (f_X5_noteAsking S a1 a2) := ⟨_, rfl⟩
  rw [← hRES]
  unfold f_X5_noteAsking at hRES
  refine CWx.of (nL := 3) (ret := none) (own := RX5) (cc := cX5_noteAsking) rfl (by decide) rfl (List.forall_mem_cons.mpr ⟨rfl, (List.forall_mem_cons.mpr ⟨rfl, (List.forall_mem_cons.mpr ⟨rfl, (fun _ h => absurd h List.not_mem_nil)⟩)⟩)⟩) (Nat.le_of_ble_eq_true rfl) ?_
  intro k C B hin hkl hkg
  subst hkl; subst hkg
  refine x_loc2 (L' := [some (.ref h), some (.int a1), some (.int a2)]) rfl ?_
  refine x_aload_n (pc' := 1) C dX5_noteAsking_0 rfl rfl rfl ?_
  refine x_get (pc' := 4) (v := .ref (ad 5)) C 0 5 inBX5 rfl rfl (by decide) fl_X5_25 rfl rfl dX5_noteAsking_1 rfl ?_
  refine x_iload_n (pc' := 5) C dX5_noteAsking_4 rfl rfl rfl ?_
  refine x_aload_n (pc' := 6) C dX5_noteAsking_5 rfl rfl rfl ?_
  refine x_iload_n (pc' := 7) C dX5_noteAsking_6 rfl rfl rfl ?_
  refine x_RV (st := [.int a1, .ref (ad 5)]) (st2 := [.int (f_X5_askedFor S a1), .int a1, .ref (ad 5)]) (pc' := 10) C (c_X5_askedFor (kl k) (kg k) h ad S a1) cw_X5_103 ok_X5_askedFor rfl (by decide) 0 rfl rfl [0, 1, 2, 3, 4] rfl rfl rfl (Nat.le_of_ble_eq_true rfl) (Nat.zero_le _) (Nat.zero_le _) rfl dX5_noteAsking_7 rfl rfl ?_
  refine x_iconst (v := 1) (pc' := 11) C dX5_noteAsking_10 rfl (by decide) ?_
  refine x_iadd (pc' := 12) (v := ((f_X5_askedFor S a1) + 1)) C dX5_noteAsking_11 rfl rfl ?_
  obtain ⟨z1, ez1⟩ : ∃ z, z = (setF S 5 (f_X3_put 24 (S.2 5) a1 ((f_X5_askedFor S a1) + 1))) := ⟨_, rfl⟩
  replace hRES := bd hRES z1 ez1
  refine x_WS (st := []) (st2 := []) (pc' := 15) C B (c_X3_put (kl k) (kg k) (ad 5) 24 (S.2 5) a1 ((f_X5_askedFor S a1) + 1) (by decide)) cw_X5_68 ok_X3_put (by decide) [3] [0, 1, 2, 4] [0, 1, 2, 4, 3] (wSt (kg k) h ad z1) rfl rfl rfl rfl (by decide) rfl (by rw [ez1]; rfl) rfl (Nat.le_of_ble_eq_true rfl) (Nat.zero_le _) (Nat.zero_le _) rfl dX5_noteAsking_12 rfl rfl ?_
  refine x_aload_n (pc' := 16) C dX5_noteAsking_15 rfl rfl rfl ?_
  refine x_dup (pc' := 17) C dX5_noteAsking_16 rfl rfl ?_
  refine x_get (pc' := 20) (v := .int (z1.1 9)) C 0 9 inBX5 rfl rfl (by decide) fl_X5_46 rfl rfl dX5_noteAsking_17 rfl ?_
  refine x_iconst (v := 1) (pc' := 21) C dX5_noteAsking_20 rfl (by decide) ?_
  refine x_iadd (pc' := 22) (v := (z1.1 9 + 1)) C dX5_noteAsking_21 rfl rfl ?_
  obtain ⟨z2, ez2⟩ : ∃ z, z = (setI z1 9 (z1.1 9 + 1)) := ⟨_, rfl⟩
  replace hRES := bd hRES z2 ez2
  refine x_put (pc' := 25) (w' := wSt (kg k) h ad z2) (ty := .int) C B 0 9 inBX5 tyX5 tyX5_ok nmX5 rfl rfl (by decide) fl_X5_46 rfl rfl rfl rfl rfl (Nat.le_of_ble_eq_true rfl) dX5_noteAsking_22 rfl (by rw [ez2]; rfl) ?_
  refine x_aload_n (pc' := 26) C dX5_noteAsking_25 rfl rfl rfl ?_
  refine x_dup (pc' := 27) C dX5_noteAsking_26 rfl rfl ?_
  refine x_get (pc' := 30) (v := .int (z2.1 10)) C 0 10 inBX5 rfl rfl (by decide) fl_X5_49 rfl rfl dX5_noteAsking_27 rfl ?_
  refine x_iload_n (pc' := 31) C dX5_noteAsking_30 rfl rfl rfl ?_
  refine x_iadd (pc' := 32) (v := (z2.1 10 + a2)) C dX5_noteAsking_31 rfl rfl ?_
  obtain ⟨z3, ez3⟩ : ∃ z, z = (setI z2 10 (z2.1 10 + a2)) := ⟨_, rfl⟩
  replace hRES := bd hRES z3 ez3
  refine x_put (pc' := 35) (w' := wSt (kg k) h ad z3) (ty := .int) C B 0 10 inBX5 tyX5 tyX5_ok nmX5 rfl rfl (by decide) fl_X5_49 rfl rfl rfl rfl rfl (Nat.le_of_ble_eq_true rfl) dX5_noteAsking_32 rfl (by rw [ez3]; rfl) ?_
  exact x_vret C (Nat.zero_le _) (Nat.zero_le _) dX5_noteAsking_35 ⟨rfl, by rw [hRES]⟩

def k_X5_lowestFree_22 (i1_22 : Nat) : Int32 := (nI i1_22)
def l_X5_lowestFree_2 (S : CS) : Nat → Nat → Int32
  | 0, _ => 0
  | n2 + 1, i1_2 => (if i1_2 < 24 then (if (f_X5_has S (nI i1_2)) = true then (l_X5_lowestFree_2 S n2 (i1_2 + 1)) else (k_X5_lowestFree_22 i1_2)) else (k_X5_lowestFree_22 i1_2))
def f_X5_lowestFree (S : CS) : Int32 := (l_X5_lowestFree_2 S 25 0)
set_option maxRecDepth 100000 in
set_option maxHeartbeats 8000000 in
theorem c_X5_lowestFree (l : Launch) (g : GT) (h : Nat) (ad : Nat → Nat) (S : CS) : CR l yX5_lowestFree (.code yX5_lowestFree cX5_lowestFree 2 (some .int)) 2 g [.ref h] (wSt g h ad S) (some (.int (f_X5_lowestFree S))) := by
  obtain ⟨RES, hRES⟩ : ∃ z, z = (f_X5_lowestFree S) := ⟨_, rfl⟩
  rw [← hRES]
  unfold f_X5_lowestFree at hRES
  refine CRx.of (nL := 2) (ret := (some .int)) (own := RX5) (cc := cX5_lowestFree) rfl (by decide) rfl (List.forall_mem_cons.mpr ⟨rfl, (fun _ h => absurd h List.not_mem_nil)⟩) (Nat.le_of_ble_eq_true rfl) ?_
  intro k C hkl hkg
  subst hkl; subst hkg
  refine x_loc2 (L' := [some (.ref h), none]) rfl ?_
  refine x_iconst (v := 0) (pc' := 1) C dX5_lowestFree_0 rfl (by decide) ?_
  refine x_istore_n (pc' := 2) (L' := [some (.ref h), some (.int 0)]) C dX5_lowestFree_1 rfl rfl (Nat.le_of_ble_eq_true rfl) rfl ?_
  have cont22 : ∀ (i1_22 : Nat), RES = k_X5_lowestFree_22 i1_22 → X k 0 0 (wSt (kg k) h ad S) 22 [none, some (.int (nI i1_22))] [] := by
    intro i1_22 hRES
    unfold k_X5_lowestFree_22 at hRES
    refine x_iload_n (pc' := 23) C dX5_lowestFree_22 rfl rfl rfl ?_
    exact x_iret C (Nat.zero_le _) (Nat.zero_le _) dX5_lowestFree_23 (by rw [hRES])
  have loop2 : ∀ (n2 : Nat) (i1_2 : Nat), i1_2 ≤ 24 → 24 < i1_2 + n2 → RES = l_X5_lowestFree_2 S n2 i1_2 → X k 0 0 (wSt (kg k) h ad S) 2 [some (.ref h), some (.int (nI i1_2))] [] := by
    intro n2
    induction n2 with
    | zero =>
      intro i1_2 hb2 hf2 hRES
      omega
    | succ n2 ih2 =>
      intro i1_2 hb2 hf2 hRES
      rw [l_X5_lowestFree_2] at hRES
      refine x_iload_n (pc' := 3) C dX5_lowestFree_2 rfl rfl rfl ?_
      refine x_bipush (v := 24) (pc' := 5) C dX5_lowestFree_3 rfl (by decide) ?_
      refine x_icmpN_ge (tgt := 22) (pc' := 8) C i1_2 24 dX5_lowestFree_5 (by decide) rfl (by omega) (by omega) (fun c1 => ?_) (fun c1 => ?_)
      · rw [if_neg c1] at hRES
        refine x_forget (L' := [none, some (.int (nI i1_2))]) [1] rfl rfl ?_
        exact cont22 i1_2 hRES
      · rw [if_pos c1] at hRES
        refine x_aload_n (pc' := 9) C dX5_lowestFree_8 rfl rfl rfl ?_
        refine x_iload_n (pc' := 10) C dX5_lowestFree_9 rfl rfl rfl ?_
        refine x_RV (st := []) (st2 := [.int (bI (f_X5_has S (nI i1_2)))]) (pc' := 13) C (c_X5_has (kl k) (kg k) h ad S (nI i1_2)) cw_X5_106 ok_X5_has rfl (by decide) 0 rfl rfl [0, 1, 2, 3, 4] rfl rfl rfl (Nat.le_of_ble_eq_true rfl) (Nat.zero_le _) (Nat.zero_le _) rfl dX5_lowestFree_10 rfl rfl ?_
        refine x_ifB_eq (tgt := 22) (pc' := 16) C dX5_lowestFree_13 (by decide) rfl (fun c2 => ?_) (fun c2 => ?_)
        · rw [if_neg c2] at hRES
          refine x_forget (L' := [none, some (.int (nI i1_2))]) [1] rfl rfl ?_
          exact cont22 i1_2 hRES
        · rw [if_pos c2] at hRES
          refine x_iinc (pc' := 19) (v := (nI (i1_2 + 1))) (L' := [some (.ref h), some (.int (nI (i1_2 + 1)))]) C dX5_lowestFree_16 rfl rfl (nI_add i1_2 1) (Nat.le_of_ble_eq_true rfl) rfl ?_
          refine x_goto (tgt := 2) C dX5_lowestFree_19 (by decide) ?_
          exact ih2 (i1_2 + 1) (by omega) (by omega) hRES
  exact loop2 25 0 (by omega) (by omega) hRES

def k_X5_madeOf_36 (i2_36 : Nat) : Int32 := (nI i2_36)
def l_X5_madeOf_4 (S : CS) (a1 : Int32) : Nat → Nat → Nat → Int32
  | 0, _, _ => 0
  | n4 + 1, i2_4, i3_4 => (if i3_4 < 24 then (if (f_X5_has S (nI i3_4)) = true then (if (f_X5_sourceOf S (nI i3_4)) = a1 then (l_X5_madeOf_4 S a1 n4 (i2_4 + 1) (i3_4 + 1)) else (l_X5_madeOf_4 S a1 n4 i2_4 (i3_4 + 1))) else (l_X5_madeOf_4 S a1 n4 i2_4 (i3_4 + 1))) else (k_X5_madeOf_36 i2_4))
def f_X5_madeOf (S : CS) (a1 : Int32) : Int32 := (l_X5_madeOf_4 S a1 24 0 1)
set_option maxRecDepth 100000 in
set_option maxHeartbeats 8000000 in
theorem c_X5_madeOf (l : Launch) (g : GT) (h : Nat) (ad : Nat → Nat) (S : CS) (a1 : Int32) : CR l yX5_madeOf (.code yX5_madeOf cX5_madeOf 4 (some .int)) 2 g [.ref h, .int a1] (wSt g h ad S) (some (.int (f_X5_madeOf S a1))) := by
  obtain ⟨RES, hRES⟩ : ∃ z, z = (f_X5_madeOf S a1) := ⟨_, rfl⟩
  rw [← hRES]
  unfold f_X5_madeOf at hRES
  refine CRx.of (nL := 4) (ret := (some .int)) (own := RX5) (cc := cX5_madeOf) rfl (by decide) rfl (List.forall_mem_cons.mpr ⟨rfl, (List.forall_mem_cons.mpr ⟨rfl, (fun _ h => absurd h List.not_mem_nil)⟩)⟩) (Nat.le_of_ble_eq_true rfl) ?_
  intro k C hkl hkg
  subst hkl; subst hkg
  refine x_loc2 (L' := [some (.ref h), some (.int a1), none, none]) rfl ?_
  refine x_iconst (v := 0) (pc' := 1) C dX5_madeOf_0 rfl (by decide) ?_
  refine x_istore_n (pc' := 2) (L' := [some (.ref h), some (.int a1), some (.int 0), none]) C dX5_madeOf_1 rfl rfl (Nat.le_of_ble_eq_true rfl) rfl ?_
  refine x_iconst (v := 1) (pc' := 3) C dX5_madeOf_2 rfl (by decide) ?_
  refine x_istore_n (pc' := 4) (L' := [some (.ref h), some (.int a1), some (.int 0), some (.int 1)]) C dX5_madeOf_3 rfl rfl (Nat.le_of_ble_eq_true rfl) rfl ?_
  have cont36 : ∀ (i2_36 : Nat), RES = k_X5_madeOf_36 i2_36 → X k 0 0 (wSt (kg k) h ad S) 36 [none, none, some (.int (nI i2_36)), none] [] := by
    intro i2_36 hRES
    unfold k_X5_madeOf_36 at hRES
    refine x_iload_n (pc' := 37) C dX5_madeOf_36 rfl rfl rfl ?_
    exact x_iret C (Nat.zero_le _) (Nat.zero_le _) dX5_madeOf_37 (by rw [hRES])
  have loop4 : ∀ (n4 : Nat) (i2_4 : Nat) (i3_4 : Nat), i3_4 ≤ 24 → 24 < i3_4 + n4 → RES = l_X5_madeOf_4 S a1 n4 i2_4 i3_4 → X k 0 0 (wSt (kg k) h ad S) 4 [some (.ref h), some (.int a1), some (.int (nI i2_4)), some (.int (nI i3_4))] [] := by
    intro n4
    induction n4 with
    | zero =>
      intro i2_4 i3_4 hb4 hf4 hRES
      omega
    | succ n4 ih4 =>
      intro i2_4 i3_4 hb4 hf4 hRES
      rw [l_X5_madeOf_4] at hRES
      refine x_iload_n (pc' := 5) C dX5_madeOf_4 rfl rfl rfl ?_
      refine x_bipush (v := 24) (pc' := 7) C dX5_madeOf_5 rfl (by decide) ?_
      refine x_icmpN_ge (tgt := 36) (pc' := 10) C i3_4 24 dX5_madeOf_7 (by decide) rfl (by omega) (by omega) (fun c1 => ?_) (fun c1 => ?_)
      · rw [if_neg c1] at hRES
        refine x_forget (L' := [none, none, some (.int (nI i2_4)), none]) [2] rfl rfl ?_
        exact cont36 i2_4 hRES
      · rw [if_pos c1] at hRES
        refine x_aload_n (pc' := 11) C dX5_madeOf_10 rfl rfl rfl ?_
        refine x_iload_n (pc' := 12) C dX5_madeOf_11 rfl rfl rfl ?_
        refine x_RV (st := []) (st2 := [.int (bI (f_X5_has S (nI i3_4)))]) (pc' := 15) C (c_X5_has (kl k) (kg k) h ad S (nI i3_4)) cw_X5_106 ok_X5_has rfl (by decide) 0 rfl rfl [0, 1, 2, 3, 4] rfl rfl rfl (Nat.le_of_ble_eq_true rfl) (Nat.zero_le _) (Nat.zero_le _) rfl dX5_madeOf_12 rfl rfl ?_
        refine x_ifB_eq (tgt := 30) (pc' := 18) C dX5_madeOf_15 (by decide) rfl (fun c2 => ?_) (fun c2 => ?_)
        · rw [if_neg c2] at hRES
          refine x_iinc (pc' := 33) (v := (nI (i3_4 + 1))) (L' := [some (.ref h), some (.int a1), some (.int (nI i2_4)), some (.int (nI (i3_4 + 1)))]) C dX5_madeOf_30 rfl rfl (nI_add i3_4 1) (Nat.le_of_ble_eq_true rfl) rfl ?_
          refine x_goto (tgt := 4) C dX5_madeOf_33 (by decide) ?_
          exact ih4 i2_4 (i3_4 + 1) (by omega) (by omega) hRES
        · rw [if_pos c2] at hRES
          refine x_aload_n (pc' := 19) C dX5_madeOf_18 rfl rfl rfl ?_
          refine x_iload_n (pc' := 20) C dX5_madeOf_19 rfl rfl rfl ?_
          refine x_RV (st := []) (st2 := [.int (f_X5_sourceOf S (nI i3_4))]) (pc' := 23) C (c_X5_sourceOf (kl k) (kg k) h ad S (nI i3_4)) cw_X5_97 ok_X5_sourceOf rfl (by decide) 0 rfl rfl [0, 1, 2, 3, 4] rfl rfl rfl (Nat.le_of_ble_eq_true rfl) (Nat.zero_le _) (Nat.zero_le _) rfl dX5_madeOf_20 rfl rfl ?_
          refine x_iload_n (pc' := 24) C dX5_madeOf_23 rfl rfl rfl ?_
          refine x_icmp_ne (tgt := 30) (pc' := 27) C dX5_madeOf_24 (by decide) rfl (fun c3 => ?_) (fun c3 => ?_)
          · rw [if_neg c3] at hRES
            refine x_iinc (pc' := 33) (v := (nI (i3_4 + 1))) (L' := [some (.ref h), some (.int a1), some (.int (nI i2_4)), some (.int (nI (i3_4 + 1)))]) C dX5_madeOf_30 rfl rfl (nI_add i3_4 1) (Nat.le_of_ble_eq_true rfl) rfl ?_
            refine x_goto (tgt := 4) C dX5_madeOf_33 (by decide) ?_
            exact ih4 i2_4 (i3_4 + 1) (by omega) (by omega) hRES
          · rw [if_pos c3] at hRES
            refine x_iinc (pc' := 30) (v := (nI (i2_4 + 1))) (L' := [some (.ref h), some (.int a1), some (.int (nI (i2_4 + 1))), some (.int (nI i3_4))]) C dX5_madeOf_27 rfl rfl (nI_add i2_4 1) (Nat.le_of_ble_eq_true rfl) rfl ?_
            refine x_iinc (pc' := 33) (v := (nI (i3_4 + 1))) (L' := [some (.ref h), some (.int a1), some (.int (nI (i2_4 + 1))), some (.int (nI (i3_4 + 1)))]) C dX5_madeOf_30 rfl rfl (nI_add i3_4 1) (Nat.le_of_ble_eq_true rfl) rfl ?_
            refine x_goto (tgt := 4) C dX5_madeOf_33 (by decide) ?_
            exact ih4 (i2_4 + 1) (i3_4 + 1) (by omega) (by omega) hRES
  exact loop4 24 0 1 (by omega) (by omega) hRES

def k_X5_ancestors_45 (x2_45 : Int32) : Int32 := x2_45
def l_X5_ancestors_15 (S : CS) : Nat → Int32 → Int32 → Nat → Int32
  | 0, _, _, _ => 0
  | n15 + 1, x2_15, x3_15, i4_15 => (if i4_15 < 24 then (if x3_15 = 0 then (k_X5_ancestors_45 x2_15) else (l_X5_ancestors_15 S n15 (x2_15 ||| (f_X4_of (f_X5_sourceOf S x3_15))) (f_X5_sourceOf S x3_15) (i4_15 + 1))) else (k_X5_ancestors_45 x2_15))
def f_X5_ancestors (S : CS) (a1 : Int32) : Int32 := (l_X5_ancestors_15 S 25 ((f_X4_of a1) ||| (f_X4_of 0)) a1 0)
set_option maxRecDepth 100000 in
set_option maxHeartbeats 8000000 in
theorem c_X5_ancestors (l : Launch) (g : GT) (h : Nat) (ad : Nat → Nat) (S : CS) (a1 : Int32) : CR l yX5_ancestors (.code yX5_ancestors cX5_ancestors 5 (some .int)) 2 g [.ref h, .int a1] (wSt g h ad S) (some (.int (f_X5_ancestors S a1))) := by
  obtain ⟨RES, hRES⟩ : ∃ z, z = (f_X5_ancestors S a1) := ⟨_, rfl⟩
  rw [← hRES]
  unfold f_X5_ancestors at hRES
  refine CRx.of (nL := 5) (ret := (some .int)) (own := RX5) (cc := cX5_ancestors) rfl (by decide) rfl (List.forall_mem_cons.mpr ⟨rfl, (List.forall_mem_cons.mpr ⟨rfl, (fun _ h => absurd h List.not_mem_nil)⟩)⟩) (Nat.le_of_ble_eq_true rfl) ?_
  intro k C hkl hkg
  subst hkl; subst hkg
  refine x_loc2 (L' := [some (.ref h), some (.int a1), none, none, none]) rfl ?_
  refine x_iload_n (pc' := 1) C dX5_ancestors_0 rfl rfl rfl ?_
  refine x_RS (st := []) (st2 := [.int (f_X4_of a1)]) (pc' := 4) C (c_X4_of (kl k) (kg k) a1) cw_X5_80 ok_X4_of (by decide) [] rfl rfl rfl (Nat.le_of_ble_eq_true rfl) (Nat.zero_le _) (Nat.zero_le _) rfl dX5_ancestors_1 rfl rfl ?_
  refine x_iconst (v := 0) (pc' := 5) C dX5_ancestors_4 rfl (by decide) ?_
  refine x_RS (st := [.int (f_X4_of a1)]) (st2 := [.int (f_X4_of 0), .int (f_X4_of a1)]) (pc' := 8) C (c_X4_of (kl k) (kg k) 0) cw_X5_80 ok_X4_of (by decide) [] rfl rfl rfl (Nat.le_of_ble_eq_true rfl) (Nat.zero_le _) (Nat.zero_le _) rfl dX5_ancestors_5 rfl rfl ?_
  refine x_ior (pc' := 9) (v := ((f_X4_of a1) ||| (f_X4_of 0))) C dX5_ancestors_8 rfl rfl ?_
  refine x_istore_n (pc' := 10) (L' := [some (.ref h), some (.int a1), some (.int ((f_X4_of a1) ||| (f_X4_of 0))), none, none]) C dX5_ancestors_9 rfl rfl (Nat.le_of_ble_eq_true rfl) rfl ?_
  refine x_iload_n (pc' := 11) C dX5_ancestors_10 rfl rfl rfl ?_
  refine x_istore_n (pc' := 12) (L' := [some (.ref h), some (.int a1), some (.int ((f_X4_of a1) ||| (f_X4_of 0))), some (.int a1), none]) C dX5_ancestors_11 rfl rfl (Nat.le_of_ble_eq_true rfl) rfl ?_
  refine x_iconst (v := 0) (pc' := 13) C dX5_ancestors_12 rfl (by decide) ?_
  refine x_istore (pc' := 15) (L' := [some (.ref h), some (.int a1), some (.int ((f_X4_of a1) ||| (f_X4_of 0))), some (.int a1), some (.int 0)]) C dX5_ancestors_13 rfl (Nat.le_of_ble_eq_true rfl) rfl ?_
  have cont45 : ∀ (x2_45 : Int32), RES = k_X5_ancestors_45 x2_45 → X k 0 0 (wSt (kg k) h ad S) 45 [none, none, some (.int x2_45), none, none] [] := by
    intro x2_45 hRES
    unfold k_X5_ancestors_45 at hRES
    refine x_iload_n (pc' := 46) C dX5_ancestors_45 rfl rfl rfl ?_
    exact x_iret C (Nat.zero_le _) (Nat.zero_le _) dX5_ancestors_46 (by rw [hRES])
  have loop15 : ∀ (n15 : Nat) (x2_15 : Int32) (x3_15 : Int32) (i4_15 : Nat), i4_15 ≤ 24 → 24 < i4_15 + n15 → RES = l_X5_ancestors_15 S n15 x2_15 x3_15 i4_15 → X k 0 0 (wSt (kg k) h ad S) 15 [some (.ref h), none, some (.int x2_15), some (.int x3_15), some (.int (nI i4_15))] [] := by
    intro n15
    induction n15 with
    | zero =>
      intro x2_15 x3_15 i4_15 hb15 hf15 hRES
      omega
    | succ n15 ih15 =>
      intro x2_15 x3_15 i4_15 hb15 hf15 hRES
      rw [l_X5_ancestors_15] at hRES
      refine x_iload (pc' := 17) C dX5_ancestors_15 rfl rfl ?_
      refine x_bipush (v := 24) (pc' := 19) C dX5_ancestors_17 rfl (by decide) ?_
      refine x_icmpN_ge (tgt := 45) (pc' := 22) C i4_15 24 dX5_ancestors_19 (by decide) rfl (by omega) (by omega) (fun c1 => ?_) (fun c1 => ?_)
      · rw [if_neg c1] at hRES
        refine x_forget (L' := [none, none, some (.int x2_15), none, none]) [1] rfl rfl ?_
        exact cont45 x2_15 hRES
      · rw [if_pos c1] at hRES
        refine x_iload_n (pc' := 23) C dX5_ancestors_22 rfl rfl rfl ?_
        refine x_if_eq (tgt := 45) (pc' := 26) C dX5_ancestors_23 (by decide) rfl (fun c2 => ?_) (fun c2 => ?_)
        · rw [if_pos c2] at hRES
          refine x_forget (L' := [none, none, some (.int x2_15), none, none]) [1] rfl rfl ?_
          exact cont45 x2_15 hRES
        · rw [if_neg c2] at hRES
          refine x_aload_n (pc' := 27) C dX5_ancestors_26 rfl rfl rfl ?_
          refine x_iload_n (pc' := 28) C dX5_ancestors_27 rfl rfl rfl ?_
          refine x_RV (st := []) (st2 := [.int (f_X5_sourceOf S x3_15)]) (pc' := 31) C (c_X5_sourceOf (kl k) (kg k) h ad S x3_15) cw_X5_97 ok_X5_sourceOf rfl (by decide) 0 rfl rfl [0, 1, 2, 3, 4] rfl rfl rfl (Nat.le_of_ble_eq_true rfl) (Nat.zero_le _) (Nat.zero_le _) rfl dX5_ancestors_28 rfl rfl ?_
          refine x_istore_n (pc' := 32) (L' := [some (.ref h), none, some (.int x2_15), some (.int (f_X5_sourceOf S x3_15)), some (.int (nI i4_15))]) C dX5_ancestors_31 rfl rfl (Nat.le_of_ble_eq_true rfl) rfl ?_
          refine x_iload_n (pc' := 33) C dX5_ancestors_32 rfl rfl rfl ?_
          refine x_iload_n (pc' := 34) C dX5_ancestors_33 rfl rfl rfl ?_
          refine x_RS (st := [.int x2_15]) (st2 := [.int (f_X4_of (f_X5_sourceOf S x3_15)), .int x2_15]) (pc' := 37) C (c_X4_of (kl k) (kg k) (f_X5_sourceOf S x3_15)) cw_X5_80 ok_X4_of (by decide) [] rfl rfl rfl (Nat.le_of_ble_eq_true rfl) (Nat.zero_le _) (Nat.zero_le _) rfl dX5_ancestors_34 rfl rfl ?_
          refine x_ior (pc' := 38) (v := (x2_15 ||| (f_X4_of (f_X5_sourceOf S x3_15)))) C dX5_ancestors_37 rfl rfl ?_
          refine x_istore_n (pc' := 39) (L' := [some (.ref h), none, some (.int (x2_15 ||| (f_X4_of (f_X5_sourceOf S x3_15)))), some (.int (f_X5_sourceOf S x3_15)), some (.int (nI i4_15))]) C dX5_ancestors_38 rfl rfl (Nat.le_of_ble_eq_true rfl) rfl ?_
          refine x_iinc (pc' := 42) (v := (nI (i4_15 + 1))) (L' := [some (.ref h), none, some (.int (x2_15 ||| (f_X4_of (f_X5_sourceOf S x3_15)))), some (.int (f_X5_sourceOf S x3_15)), some (.int (nI (i4_15 + 1)))]) C dX5_ancestors_39 rfl rfl (nI_add i4_15 1) (Nat.le_of_ble_eq_true rfl) rfl ?_
          refine x_goto (tgt := 15) C dX5_ancestors_42 (by decide) ?_
          exact ih15 (x2_15 ||| (f_X4_of (f_X5_sourceOf S x3_15))) (f_X5_sourceOf S x3_15) (i4_15 + 1) (by omega) (by omega) hRES
  refine x_forget (L' := [some (.ref h), none, some (.int ((f_X4_of a1) ||| (f_X4_of 0))), some (.int a1), some (.int 0)]) [0, 2, 3, 4] rfl rfl ?_
  exact loop15 25 ((f_X4_of a1) ||| (f_X4_of 0)) a1 0 (by omega) (by omega) hRES

def k_X5_neverAsked_35 (i1_35 : Nat) : Int32 := (nI i1_35)
def l_X5_neverAsked_4 (S : CS) : Nat → Nat → Nat → Int32
  | 0, _, _ => 0
  | n4 + 1, i1_4, i2_4 => (if i2_4 < 24 then (if (f_X5_has S (nI i2_4)) = true then (if (f_X5_askedFor S (nI i2_4)) = 0 then (l_X5_neverAsked_4 S n4 (i1_4 + 1) (i2_4 + 1)) else (l_X5_neverAsked_4 S n4 i1_4 (i2_4 + 1))) else (l_X5_neverAsked_4 S n4 i1_4 (i2_4 + 1))) else (k_X5_neverAsked_35 i1_4))
def f_X5_neverAsked (S : CS) : Int32 := (l_X5_neverAsked_4 S 25 0 0)
set_option maxRecDepth 100000 in
set_option maxHeartbeats 8000000 in
theorem c_X5_neverAsked (l : Launch) (g : GT) (h : Nat) (ad : Nat → Nat) (S : CS) : CR l yX5_neverAsked (.code yX5_neverAsked cX5_neverAsked 3 (some .int)) 2 g [.ref h] (wSt g h ad S) (some (.int (f_X5_neverAsked S))) := by
  obtain ⟨RES, hRES⟩ : ∃ z, z = (f_X5_neverAsked S) := ⟨_, rfl⟩
  rw [← hRES]
  unfold f_X5_neverAsked at hRES
  refine CRx.of (nL := 3) (ret := (some .int)) (own := RX5) (cc := cX5_neverAsked) rfl (by decide) rfl (List.forall_mem_cons.mpr ⟨rfl, (fun _ h => absurd h List.not_mem_nil)⟩) (Nat.le_of_ble_eq_true rfl) ?_
  intro k C hkl hkg
  subst hkl; subst hkg
  refine x_loc2 (L' := [some (.ref h), none, none]) rfl ?_
  refine x_iconst (v := 0) (pc' := 1) C dX5_neverAsked_0 rfl (by decide) ?_
  refine x_istore_n (pc' := 2) (L' := [some (.ref h), some (.int 0), none]) C dX5_neverAsked_1 rfl rfl (Nat.le_of_ble_eq_true rfl) rfl ?_
  refine x_iconst (v := 0) (pc' := 3) C dX5_neverAsked_2 rfl (by decide) ?_
  refine x_istore_n (pc' := 4) (L' := [some (.ref h), some (.int 0), some (.int 0)]) C dX5_neverAsked_3 rfl rfl (Nat.le_of_ble_eq_true rfl) rfl ?_
  have cont35 : ∀ (i1_35 : Nat), RES = k_X5_neverAsked_35 i1_35 → X k 0 0 (wSt (kg k) h ad S) 35 [none, some (.int (nI i1_35)), none] [] := by
    intro i1_35 hRES
    unfold k_X5_neverAsked_35 at hRES
    refine x_iload_n (pc' := 36) C dX5_neverAsked_35 rfl rfl rfl ?_
    exact x_iret C (Nat.zero_le _) (Nat.zero_le _) dX5_neverAsked_36 (by rw [hRES])
  have loop4 : ∀ (n4 : Nat) (i1_4 : Nat) (i2_4 : Nat), i2_4 ≤ 24 → 24 < i2_4 + n4 → RES = l_X5_neverAsked_4 S n4 i1_4 i2_4 → X k 0 0 (wSt (kg k) h ad S) 4 [some (.ref h), some (.int (nI i1_4)), some (.int (nI i2_4))] [] := by
    intro n4
    induction n4 with
    | zero =>
      intro i1_4 i2_4 hb4 hf4 hRES
      omega
    | succ n4 ih4 =>
      intro i1_4 i2_4 hb4 hf4 hRES
      rw [l_X5_neverAsked_4] at hRES
      refine x_iload_n (pc' := 5) C dX5_neverAsked_4 rfl rfl rfl ?_
      refine x_bipush (v := 24) (pc' := 7) C dX5_neverAsked_5 rfl (by decide) ?_
      refine x_icmpN_ge (tgt := 35) (pc' := 10) C i2_4 24 dX5_neverAsked_7 (by decide) rfl (by omega) (by omega) (fun c1 => ?_) (fun c1 => ?_)
      · rw [if_neg c1] at hRES
        refine x_forget (L' := [none, some (.int (nI i1_4)), none]) [1] rfl rfl ?_
        exact cont35 i1_4 hRES
      · rw [if_pos c1] at hRES
        refine x_aload_n (pc' := 11) C dX5_neverAsked_10 rfl rfl rfl ?_
        refine x_iload_n (pc' := 12) C dX5_neverAsked_11 rfl rfl rfl ?_
        refine x_RV (st := []) (st2 := [.int (bI (f_X5_has S (nI i2_4)))]) (pc' := 15) C (c_X5_has (kl k) (kg k) h ad S (nI i2_4)) cw_X5_106 ok_X5_has rfl (by decide) 0 rfl rfl [0, 1, 2, 3, 4] rfl rfl rfl (Nat.le_of_ble_eq_true rfl) (Nat.zero_le _) (Nat.zero_le _) rfl dX5_neverAsked_12 rfl rfl ?_
        refine x_ifB_eq (tgt := 29) (pc' := 18) C dX5_neverAsked_15 (by decide) rfl (fun c2 => ?_) (fun c2 => ?_)
        · rw [if_neg c2] at hRES
          refine x_iinc (pc' := 32) (v := (nI (i2_4 + 1))) (L' := [some (.ref h), some (.int (nI i1_4)), some (.int (nI (i2_4 + 1)))]) C dX5_neverAsked_29 rfl rfl (nI_add i2_4 1) (Nat.le_of_ble_eq_true rfl) rfl ?_
          refine x_goto (tgt := 4) C dX5_neverAsked_32 (by decide) ?_
          exact ih4 i1_4 (i2_4 + 1) (by omega) (by omega) hRES
        · rw [if_pos c2] at hRES
          refine x_aload_n (pc' := 19) C dX5_neverAsked_18 rfl rfl rfl ?_
          refine x_iload_n (pc' := 20) C dX5_neverAsked_19 rfl rfl rfl ?_
          refine x_RV (st := []) (st2 := [.int (f_X5_askedFor S (nI i2_4))]) (pc' := 23) C (c_X5_askedFor (kl k) (kg k) h ad S (nI i2_4)) cw_X5_103 ok_X5_askedFor rfl (by decide) 0 rfl rfl [0, 1, 2, 3, 4] rfl rfl rfl (Nat.le_of_ble_eq_true rfl) (Nat.zero_le _) (Nat.zero_le _) rfl dX5_neverAsked_20 rfl rfl ?_
          refine x_if_ne (tgt := 29) (pc' := 26) C dX5_neverAsked_23 (by decide) rfl (fun c3 => ?_) (fun c3 => ?_)
          · rw [if_neg c3] at hRES
            refine x_iinc (pc' := 32) (v := (nI (i2_4 + 1))) (L' := [some (.ref h), some (.int (nI i1_4)), some (.int (nI (i2_4 + 1)))]) C dX5_neverAsked_29 rfl rfl (nI_add i2_4 1) (Nat.le_of_ble_eq_true rfl) rfl ?_
            refine x_goto (tgt := 4) C dX5_neverAsked_32 (by decide) ?_
            exact ih4 i1_4 (i2_4 + 1) (by omega) (by omega) hRES
          · rw [if_pos c3] at hRES
            refine x_iinc (pc' := 29) (v := (nI (i1_4 + 1))) (L' := [some (.ref h), some (.int (nI (i1_4 + 1))), some (.int (nI i2_4))]) C dX5_neverAsked_26 rfl rfl (nI_add i1_4 1) (Nat.le_of_ble_eq_true rfl) rfl ?_
            refine x_iinc (pc' := 32) (v := (nI (i2_4 + 1))) (L' := [some (.ref h), some (.int (nI (i1_4 + 1))), some (.int (nI (i2_4 + 1)))]) C dX5_neverAsked_29 rfl rfl (nI_add i2_4 1) (Nat.le_of_ble_eq_true rfl) rfl ?_
            refine x_goto (tgt := 4) C dX5_neverAsked_32 (by decide) ?_
            exact ih4 (i1_4 + 1) (i2_4 + 1) (by omega) (by omega) hRES
  exact loop4 25 0 0 (by omega) (by omega) hRES

def k_X5_hasRowBelow_38 : Bool := false
def l_X5_hasRowBelow_2 (S : CS) (a1 : Int32) : Nat → Nat → Bool
  | 0, _ => false
  | n2 + 1, i2_2 => (if (nI i2_2) < a1 then (if i2_2 < 24 then (if (f_X5_has S (nI i2_2)) = true then (if (f_X5_unlikeCells S (nI i2_2) a1) = 0 then true else (l_X5_hasRowBelow_2 S a1 n2 (i2_2 + 1))) else (l_X5_hasRowBelow_2 S a1 n2 (i2_2 + 1))) else (k_X5_hasRowBelow_38)) else (k_X5_hasRowBelow_38))
def f_X5_hasRowBelow (S : CS) (a1 : Int32) : Bool := (l_X5_hasRowBelow_2 S a1 25 0)
set_option maxRecDepth 100000 in
set_option maxHeartbeats 8000000 in
theorem c_X5_hasRowBelow (l : Launch) (g : GT) (h : Nat) (ad : Nat → Nat) (S : CS) (a1 : Int32) : CR l yX5_hasRowBelow (.code yX5_hasRowBelow cX5_hasRowBelow 3 (some .boolean)) 3 g [.ref h, .int a1] (wSt g h ad S) (some (.int (bI (f_X5_hasRowBelow S a1)))) := by
  obtain ⟨RES, hRES⟩ : ∃ z, z = (f_X5_hasRowBelow S a1) := ⟨_, rfl⟩
  rw [← hRES]
  unfold f_X5_hasRowBelow at hRES
  refine CRx.of (nL := 3) (ret := (some .boolean)) (own := RX5) (cc := cX5_hasRowBelow) rfl (by decide) rfl (List.forall_mem_cons.mpr ⟨rfl, (List.forall_mem_cons.mpr ⟨rfl, (fun _ h => absurd h List.not_mem_nil)⟩)⟩) (Nat.le_of_ble_eq_true rfl) ?_
  intro k C hkl hkg
  subst hkl; subst hkg
  refine x_loc2 (L' := [some (.ref h), some (.int a1), none]) rfl ?_
  refine x_iconst (v := 0) (pc' := 1) C dX5_hasRowBelow_0 rfl (by decide) ?_
  refine x_istore_n (pc' := 2) (L' := [some (.ref h), some (.int a1), some (.int 0)]) C dX5_hasRowBelow_1 rfl rfl (Nat.le_of_ble_eq_true rfl) rfl ?_
  have cont38 : ∀ (_ : Unit), RES = k_X5_hasRowBelow_38 → X k 0 0 (wSt (kg k) h ad S) 38 [none, none, none] [] := by
    intro _ hRES
    unfold k_X5_hasRowBelow_38 at hRES
    refine x_iconst (v := 0) (pc' := 39) C dX5_hasRowBelow_38 rfl (by decide) ?_
    exact x_zret (b := false) C (Nat.zero_le _) (Nat.zero_le _) dX5_hasRowBelow_39 (by rw [hRES])
  have loop2 : ∀ (n2 : Nat) (i2_2 : Nat), i2_2 ≤ 24 → 24 < i2_2 + n2 → RES = l_X5_hasRowBelow_2 S a1 n2 i2_2 → X k 0 0 (wSt (kg k) h ad S) 2 [some (.ref h), some (.int a1), some (.int (nI i2_2))] [] := by
    intro n2
    induction n2 with
    | zero =>
      intro i2_2 hb2 hf2 hRES
      omega
    | succ n2 ih2 =>
      intro i2_2 hb2 hf2 hRES
      rw [l_X5_hasRowBelow_2] at hRES
      refine x_iload_n (pc' := 3) C dX5_hasRowBelow_2 rfl rfl rfl ?_
      refine x_iload_n (pc' := 4) C dX5_hasRowBelow_3 rfl rfl rfl ?_
      refine x_icmp_ge (tgt := 38) (pc' := 7) C dX5_hasRowBelow_4 (by decide) rfl (fun c1 => ?_) (fun c1 => ?_)
      · rw [if_neg c1] at hRES
        refine x_forget (L' := [none, none, none]) [] rfl rfl ?_
        exact cont38 () hRES
      · rw [if_pos c1] at hRES
        refine x_iload_n (pc' := 8) C dX5_hasRowBelow_7 rfl rfl rfl ?_
        refine x_bipush (v := 24) (pc' := 10) C dX5_hasRowBelow_8 rfl (by decide) ?_
        refine x_icmpN_ge (tgt := 38) (pc' := 13) C i2_2 24 dX5_hasRowBelow_10 (by decide) rfl (by omega) (by omega) (fun c2 => ?_) (fun c2 => ?_)
        · rw [if_neg c2] at hRES
          refine x_forget (L' := [none, none, none]) [] rfl rfl ?_
          exact cont38 () hRES
        · rw [if_pos c2] at hRES
          refine x_aload_n (pc' := 14) C dX5_hasRowBelow_13 rfl rfl rfl ?_
          refine x_iload_n (pc' := 15) C dX5_hasRowBelow_14 rfl rfl rfl ?_
          refine x_RV (st := []) (st2 := [.int (bI (f_X5_has S (nI i2_2)))]) (pc' := 18) C (c_X5_has (kl k) (kg k) h ad S (nI i2_2)) cw_X5_106 ok_X5_has rfl (by decide) 0 rfl rfl [0, 1, 2, 3, 4] rfl rfl rfl (Nat.le_of_ble_eq_true rfl) (Nat.zero_le _) (Nat.zero_le _) rfl dX5_hasRowBelow_15 rfl rfl ?_
          refine x_ifB_eq (tgt := 32) (pc' := 21) C dX5_hasRowBelow_18 (by decide) rfl (fun c3 => ?_) (fun c3 => ?_)
          · rw [if_neg c3] at hRES
            refine x_iinc (pc' := 35) (v := (nI (i2_2 + 1))) (L' := [some (.ref h), some (.int a1), some (.int (nI (i2_2 + 1)))]) C dX5_hasRowBelow_32 rfl rfl (nI_add i2_2 1) (Nat.le_of_ble_eq_true rfl) rfl ?_
            refine x_goto (tgt := 2) C dX5_hasRowBelow_35 (by decide) ?_
            exact ih2 (i2_2 + 1) (by omega) (by omega) hRES
          · rw [if_pos c3] at hRES
            refine x_aload_n (pc' := 22) C dX5_hasRowBelow_21 rfl rfl rfl ?_
            refine x_iload_n (pc' := 23) C dX5_hasRowBelow_22 rfl rfl rfl ?_
            refine x_iload_n (pc' := 24) C dX5_hasRowBelow_23 rfl rfl rfl ?_
            refine x_RV (st := []) (st2 := [.int (f_X5_unlikeCells S (nI i2_2) a1)]) (pc' := 27) C (c_X5_unlikeCells (kl k) (kg k) h ad S (nI i2_2) a1) cw_X5_84 ok_X5_unlikeCells rfl (by decide) 0 rfl rfl [0, 1, 2, 3, 4] rfl rfl rfl (Nat.le_of_ble_eq_true rfl) (Nat.zero_le _) (Nat.zero_le _) rfl dX5_hasRowBelow_24 rfl rfl ?_
            refine x_if_ne (tgt := 32) (pc' := 30) C dX5_hasRowBelow_27 (by decide) rfl (fun c4 => ?_) (fun c4 => ?_)
            · rw [if_neg c4] at hRES
              refine x_iinc (pc' := 35) (v := (nI (i2_2 + 1))) (L' := [some (.ref h), some (.int a1), some (.int (nI (i2_2 + 1)))]) C dX5_hasRowBelow_32 rfl rfl (nI_add i2_2 1) (Nat.le_of_ble_eq_true rfl) rfl ?_
              refine x_goto (tgt := 2) C dX5_hasRowBelow_35 (by decide) ?_
              exact ih2 (i2_2 + 1) (by omega) (by omega) hRES
            · rw [if_pos c4] at hRES
              refine x_iconst (v := 1) (pc' := 31) C dX5_hasRowBelow_30 rfl (by decide) ?_
              exact x_zret (b := true) C (Nat.zero_le _) (Nat.zero_le _) dX5_hasRowBelow_31 (by rw [hRES])
  exact loop2 25 0 (by omega) (by omega) hRES

def k_X5_unlikeRows_35 (i1_35 : Nat) : Int32 := (nI i1_35)
def l_X5_unlikeRows_4 (S : CS) : Nat → Nat → Nat → Int32
  | 0, _, _ => 0
  | n4 + 1, i1_4, i2_4 => (if i2_4 < 24 then (if (f_X5_has S (nI i2_4)) = true then (if (f_X5_hasRowBelow S (nI i2_4)) = true then (l_X5_unlikeRows_4 S n4 i1_4 (i2_4 + 1)) else (l_X5_unlikeRows_4 S n4 (i1_4 + 1) (i2_4 + 1))) else (l_X5_unlikeRows_4 S n4 i1_4 (i2_4 + 1))) else (k_X5_unlikeRows_35 i1_4))
def f_X5_unlikeRows (S : CS) : Int32 := (l_X5_unlikeRows_4 S 25 0 0)
set_option maxRecDepth 100000 in
set_option maxHeartbeats 8000000 in
theorem c_X5_unlikeRows (l : Launch) (g : GT) (h : Nat) (ad : Nat → Nat) (S : CS) : CR l yX5_unlikeRows (.code yX5_unlikeRows cX5_unlikeRows 3 (some .int)) 4 g [.ref h] (wSt g h ad S) (some (.int (f_X5_unlikeRows S))) := by
  obtain ⟨RES, hRES⟩ : ∃ z, z = (f_X5_unlikeRows S) := ⟨_, rfl⟩
  rw [← hRES]
  unfold f_X5_unlikeRows at hRES
  refine CRx.of (nL := 3) (ret := (some .int)) (own := RX5) (cc := cX5_unlikeRows) rfl (by decide) rfl (List.forall_mem_cons.mpr ⟨rfl, (fun _ h => absurd h List.not_mem_nil)⟩) (Nat.le_of_ble_eq_true rfl) ?_
  intro k C hkl hkg
  subst hkl; subst hkg
  refine x_loc2 (L' := [some (.ref h), none, none]) rfl ?_
  refine x_iconst (v := 0) (pc' := 1) C dX5_unlikeRows_0 rfl (by decide) ?_
  refine x_istore_n (pc' := 2) (L' := [some (.ref h), some (.int 0), none]) C dX5_unlikeRows_1 rfl rfl (Nat.le_of_ble_eq_true rfl) rfl ?_
  refine x_iconst (v := 0) (pc' := 3) C dX5_unlikeRows_2 rfl (by decide) ?_
  refine x_istore_n (pc' := 4) (L' := [some (.ref h), some (.int 0), some (.int 0)]) C dX5_unlikeRows_3 rfl rfl (Nat.le_of_ble_eq_true rfl) rfl ?_
  have cont35 : ∀ (i1_35 : Nat), RES = k_X5_unlikeRows_35 i1_35 → X k 0 0 (wSt (kg k) h ad S) 35 [none, some (.int (nI i1_35)), none] [] := by
    intro i1_35 hRES
    unfold k_X5_unlikeRows_35 at hRES
    refine x_iload_n (pc' := 36) C dX5_unlikeRows_35 rfl rfl rfl ?_
    exact x_iret C (Nat.zero_le _) (Nat.zero_le _) dX5_unlikeRows_36 (by rw [hRES])
  have loop4 : ∀ (n4 : Nat) (i1_4 : Nat) (i2_4 : Nat), i2_4 ≤ 24 → 24 < i2_4 + n4 → RES = l_X5_unlikeRows_4 S n4 i1_4 i2_4 → X k 0 0 (wSt (kg k) h ad S) 4 [some (.ref h), some (.int (nI i1_4)), some (.int (nI i2_4))] [] := by
    intro n4
    induction n4 with
    | zero =>
      intro i1_4 i2_4 hb4 hf4 hRES
      omega
    | succ n4 ih4 =>
      intro i1_4 i2_4 hb4 hf4 hRES
      rw [l_X5_unlikeRows_4] at hRES
      refine x_iload_n (pc' := 5) C dX5_unlikeRows_4 rfl rfl rfl ?_
      refine x_bipush (v := 24) (pc' := 7) C dX5_unlikeRows_5 rfl (by decide) ?_
      refine x_icmpN_ge (tgt := 35) (pc' := 10) C i2_4 24 dX5_unlikeRows_7 (by decide) rfl (by omega) (by omega) (fun c1 => ?_) (fun c1 => ?_)
      · rw [if_neg c1] at hRES
        refine x_forget (L' := [none, some (.int (nI i1_4)), none]) [1] rfl rfl ?_
        exact cont35 i1_4 hRES
      · rw [if_pos c1] at hRES
        refine x_aload_n (pc' := 11) C dX5_unlikeRows_10 rfl rfl rfl ?_
        refine x_iload_n (pc' := 12) C dX5_unlikeRows_11 rfl rfl rfl ?_
        refine x_RV (st := []) (st2 := [.int (bI (f_X5_has S (nI i2_4)))]) (pc' := 15) C (c_X5_has (kl k) (kg k) h ad S (nI i2_4)) cw_X5_106 ok_X5_has rfl (by decide) 0 rfl rfl [0, 1, 2, 3, 4] rfl rfl rfl (Nat.le_of_ble_eq_true rfl) (Nat.zero_le _) (Nat.zero_le _) rfl dX5_unlikeRows_12 rfl rfl ?_
        refine x_ifB_eq (tgt := 29) (pc' := 18) C dX5_unlikeRows_15 (by decide) rfl (fun c2 => ?_) (fun c2 => ?_)
        · rw [if_neg c2] at hRES
          refine x_iinc (pc' := 32) (v := (nI (i2_4 + 1))) (L' := [some (.ref h), some (.int (nI i1_4)), some (.int (nI (i2_4 + 1)))]) C dX5_unlikeRows_29 rfl rfl (nI_add i2_4 1) (Nat.le_of_ble_eq_true rfl) rfl ?_
          refine x_goto (tgt := 4) C dX5_unlikeRows_32 (by decide) ?_
          exact ih4 i1_4 (i2_4 + 1) (by omega) (by omega) hRES
        · rw [if_pos c2] at hRES
          refine x_aload_n (pc' := 19) C dX5_unlikeRows_18 rfl rfl rfl ?_
          refine x_iload_n (pc' := 20) C dX5_unlikeRows_19 rfl rfl rfl ?_
          refine x_RV (st := []) (st2 := [.int (bI (f_X5_hasRowBelow S (nI i2_4)))]) (pc' := 23) C (c_X5_hasRowBelow (kl k) (kg k) h ad S (nI i2_4)) cw_X5_128 ok_X5_hasRowBelow rfl (by decide) 0 rfl rfl [0, 1, 2, 3, 4] rfl rfl rfl (Nat.le_of_ble_eq_true rfl) (Nat.zero_le _) (Nat.zero_le _) rfl dX5_unlikeRows_20 rfl rfl ?_
          refine x_ifB_ne (tgt := 29) (pc' := 26) C dX5_unlikeRows_23 (by decide) rfl (fun c3 => ?_) (fun c3 => ?_)
          · rw [if_pos c3] at hRES
            refine x_iinc (pc' := 32) (v := (nI (i2_4 + 1))) (L' := [some (.ref h), some (.int (nI i1_4)), some (.int (nI (i2_4 + 1)))]) C dX5_unlikeRows_29 rfl rfl (nI_add i2_4 1) (Nat.le_of_ble_eq_true rfl) rfl ?_
            refine x_goto (tgt := 4) C dX5_unlikeRows_32 (by decide) ?_
            exact ih4 i1_4 (i2_4 + 1) (by omega) (by omega) hRES
          · rw [if_neg c3] at hRES
            refine x_iinc (pc' := 29) (v := (nI (i1_4 + 1))) (L' := [some (.ref h), some (.int (nI (i1_4 + 1))), some (.int (nI i2_4))]) C dX5_unlikeRows_26 rfl rfl (nI_add i1_4 1) (Nat.le_of_ble_eq_true rfl) rfl ?_
            refine x_iinc (pc' := 32) (v := (nI (i2_4 + 1))) (L' := [some (.ref h), some (.int (nI (i1_4 + 1))), some (.int (nI (i2_4 + 1)))]) C dX5_unlikeRows_29 rfl rfl (nI_add i2_4 1) (Nat.le_of_ble_eq_true rfl) rfl ?_
            refine x_goto (tgt := 4) C dX5_unlikeRows_32 (by decide) ?_
            exact ih4 (i1_4 + 1) (i2_4 + 1) (by omega) (by omega) hRES
  exact loop4 25 0 0 (by omega) (by omega) hRES

def f_J6_bitCount_0f7a4 (a1 : Int32) : Int32 := ((((((((a1 - ((ushr a1 1) &&& 1431655765)) &&& 858993459) + ((ushr (a1 - ((ushr a1 1) &&& 1431655765)) 2) &&& 858993459)) + (ushr (((a1 - ((ushr a1 1) &&& 1431655765)) &&& 858993459) + ((ushr (a1 - ((ushr a1 1) &&& 1431655765)) 2) &&& 858993459)) 4)) &&& 252645135) + (ushr (((((a1 - ((ushr a1 1) &&& 1431655765)) &&& 858993459) + ((ushr (a1 - ((ushr a1 1) &&& 1431655765)) 2) &&& 858993459)) + (ushr (((a1 - ((ushr a1 1) &&& 1431655765)) &&& 858993459) + ((ushr (a1 - ((ushr a1 1) &&& 1431655765)) 2) &&& 858993459)) 4)) &&& 252645135) 8)) + (ushr ((((((a1 - ((ushr a1 1) &&& 1431655765)) &&& 858993459) + ((ushr (a1 - ((ushr a1 1) &&& 1431655765)) 2) &&& 858993459)) + (ushr (((a1 - ((ushr a1 1) &&& 1431655765)) &&& 858993459) + ((ushr (a1 - ((ushr a1 1) &&& 1431655765)) 2) &&& 858993459)) 4)) &&& 252645135) + (ushr (((((a1 - ((ushr a1 1) &&& 1431655765)) &&& 858993459) + ((ushr (a1 - ((ushr a1 1) &&& 1431655765)) 2) &&& 858993459)) + (ushr (((a1 - ((ushr a1 1) &&& 1431655765)) &&& 858993459) + ((ushr (a1 - ((ushr a1 1) &&& 1431655765)) 2) &&& 858993459)) 4)) &&& 252645135) 8)) 16)) &&& 63)
set_option maxRecDepth 100000 in
set_option maxHeartbeats 8000000 in
theorem c_J6_bitCount_0f7a4 (l : Launch) (g : GT) (a1 : Int32) : CR l yJ6_bitCount_0f7a4 (.code yJ6_bitCount_0f7a4 cJ6_bitCount_0f7a4 1 (some .int)) 0 g [.int a1] ([]) (some (.int (f_J6_bitCount_0f7a4 a1))) := by
  obtain ⟨RES, hRES⟩ : ∃ z, z = (f_J6_bitCount_0f7a4 a1) := ⟨_, rfl⟩
  rw [← hRES]
  unfold f_J6_bitCount_0f7a4 at hRES
  refine CRx.of (nL := 1) (ret := (some .int)) (own := RJ6) (cc := cJ6_bitCount_0f7a4) rfl (by decide) rfl (List.forall_mem_cons.mpr ⟨rfl, (fun _ h => absurd h List.not_mem_nil)⟩) (Nat.le_of_ble_eq_true rfl) ?_
  intro k C hkl hkg
  subst hkl; subst hkg
  refine x_loc2 (L' := [some (.int a1)]) rfl ?_
  refine x_iload_n (pc' := 1) C dJ6_bitCount_0f7a4_0 rfl rfl rfl ?_
  refine x_iload_n (pc' := 2) C dJ6_bitCount_0f7a4_1 rfl rfl rfl ?_
  refine x_iconst (v := 1) (pc' := 3) C dJ6_bitCount_0f7a4_2 rfl (by decide) ?_
  refine x_iushr (pc' := 4) (v := (ushr a1 1)) C dJ6_bitCount_0f7a4_3 rfl rfl ?_
  refine x_ldcw (v := 1431655765) (pc' := 7) C kn_J6_265 dJ6_bitCount_0f7a4_4 rfl ?_
  refine x_iand (pc' := 8) (v := ((ushr a1 1) &&& 1431655765)) C dJ6_bitCount_0f7a4_7 rfl rfl ?_
  refine x_isub (pc' := 9) (v := (a1 - ((ushr a1 1) &&& 1431655765))) C dJ6_bitCount_0f7a4_8 rfl rfl ?_
  refine x_istore_n (pc' := 10) (L' := [some (.int (a1 - ((ushr a1 1) &&& 1431655765)))]) C dJ6_bitCount_0f7a4_9 rfl rfl (Nat.le_of_ble_eq_true rfl) rfl ?_
  refine x_iload_n (pc' := 11) C dJ6_bitCount_0f7a4_10 rfl rfl rfl ?_
  refine x_ldcw (v := 858993459) (pc' := 14) C kn_J6_266 dJ6_bitCount_0f7a4_11 rfl ?_
  refine x_iand (pc' := 15) (v := ((a1 - ((ushr a1 1) &&& 1431655765)) &&& 858993459)) C dJ6_bitCount_0f7a4_14 rfl rfl ?_
  refine x_iload_n (pc' := 16) C dJ6_bitCount_0f7a4_15 rfl rfl rfl ?_
  refine x_iconst (v := 2) (pc' := 17) C dJ6_bitCount_0f7a4_16 rfl (by decide) ?_
  refine x_iushr (pc' := 18) (v := (ushr (a1 - ((ushr a1 1) &&& 1431655765)) 2)) C dJ6_bitCount_0f7a4_17 rfl rfl ?_
  refine x_ldcw (v := 858993459) (pc' := 21) C kn_J6_266 dJ6_bitCount_0f7a4_18 rfl ?_
  refine x_iand (pc' := 22) (v := ((ushr (a1 - ((ushr a1 1) &&& 1431655765)) 2) &&& 858993459)) C dJ6_bitCount_0f7a4_21 rfl rfl ?_
  refine x_iadd (pc' := 23) (v := (((a1 - ((ushr a1 1) &&& 1431655765)) &&& 858993459) + ((ushr (a1 - ((ushr a1 1) &&& 1431655765)) 2) &&& 858993459))) C dJ6_bitCount_0f7a4_22 rfl rfl ?_
  refine x_istore_n (pc' := 24) (L' := [some (.int (((a1 - ((ushr a1 1) &&& 1431655765)) &&& 858993459) + ((ushr (a1 - ((ushr a1 1) &&& 1431655765)) 2) &&& 858993459)))]) C dJ6_bitCount_0f7a4_23 rfl rfl (Nat.le_of_ble_eq_true rfl) rfl ?_
  refine x_iload_n (pc' := 25) C dJ6_bitCount_0f7a4_24 rfl rfl rfl ?_
  refine x_iload_n (pc' := 26) C dJ6_bitCount_0f7a4_25 rfl rfl rfl ?_
  refine x_iconst (v := 4) (pc' := 27) C dJ6_bitCount_0f7a4_26 rfl (by decide) ?_
  refine x_iushr (pc' := 28) (v := (ushr (((a1 - ((ushr a1 1) &&& 1431655765)) &&& 858993459) + ((ushr (a1 - ((ushr a1 1) &&& 1431655765)) 2) &&& 858993459)) 4)) C dJ6_bitCount_0f7a4_27 rfl rfl ?_
  refine x_iadd (pc' := 29) (v := ((((a1 - ((ushr a1 1) &&& 1431655765)) &&& 858993459) + ((ushr (a1 - ((ushr a1 1) &&& 1431655765)) 2) &&& 858993459)) + (ushr (((a1 - ((ushr a1 1) &&& 1431655765)) &&& 858993459) + ((ushr (a1 - ((ushr a1 1) &&& 1431655765)) 2) &&& 858993459)) 4))) C dJ6_bitCount_0f7a4_28 rfl rfl ?_
  refine x_ldcw (v := 252645135) (pc' := 32) C kn_J6_267 dJ6_bitCount_0f7a4_29 rfl ?_
  refine x_iand (pc' := 33) (v := (((((a1 - ((ushr a1 1) &&& 1431655765)) &&& 858993459) + ((ushr (a1 - ((ushr a1 1) &&& 1431655765)) 2) &&& 858993459)) + (ushr (((a1 - ((ushr a1 1) &&& 1431655765)) &&& 858993459) + ((ushr (a1 - ((ushr a1 1) &&& 1431655765)) 2) &&& 858993459)) 4)) &&& 252645135)) C dJ6_bitCount_0f7a4_32 rfl rfl ?_
  refine x_istore_n (pc' := 34) (L' := [some (.int (((((a1 - ((ushr a1 1) &&& 1431655765)) &&& 858993459) + ((ushr (a1 - ((ushr a1 1) &&& 1431655765)) 2) &&& 858993459)) + (ushr (((a1 - ((ushr a1 1) &&& 1431655765)) &&& 858993459) + ((ushr (a1 - ((ushr a1 1) &&& 1431655765)) 2) &&& 858993459)) 4)) &&& 252645135))]) C dJ6_bitCount_0f7a4_33 rfl rfl (Nat.le_of_ble_eq_true rfl) rfl ?_
  refine x_iload_n (pc' := 35) C dJ6_bitCount_0f7a4_34 rfl rfl rfl ?_
  refine x_iload_n (pc' := 36) C dJ6_bitCount_0f7a4_35 rfl rfl rfl ?_
  refine x_bipush (v := 8) (pc' := 38) C dJ6_bitCount_0f7a4_36 rfl (by decide) ?_
  refine x_iushr (pc' := 39) (v := (ushr (((((a1 - ((ushr a1 1) &&& 1431655765)) &&& 858993459) + ((ushr (a1 - ((ushr a1 1) &&& 1431655765)) 2) &&& 858993459)) + (ushr (((a1 - ((ushr a1 1) &&& 1431655765)) &&& 858993459) + ((ushr (a1 - ((ushr a1 1) &&& 1431655765)) 2) &&& 858993459)) 4)) &&& 252645135) 8)) C dJ6_bitCount_0f7a4_38 rfl rfl ?_
  refine x_iadd (pc' := 40) (v := ((((((a1 - ((ushr a1 1) &&& 1431655765)) &&& 858993459) + ((ushr (a1 - ((ushr a1 1) &&& 1431655765)) 2) &&& 858993459)) + (ushr (((a1 - ((ushr a1 1) &&& 1431655765)) &&& 858993459) + ((ushr (a1 - ((ushr a1 1) &&& 1431655765)) 2) &&& 858993459)) 4)) &&& 252645135) + (ushr (((((a1 - ((ushr a1 1) &&& 1431655765)) &&& 858993459) + ((ushr (a1 - ((ushr a1 1) &&& 1431655765)) 2) &&& 858993459)) + (ushr (((a1 - ((ushr a1 1) &&& 1431655765)) &&& 858993459) + ((ushr (a1 - ((ushr a1 1) &&& 1431655765)) 2) &&& 858993459)) 4)) &&& 252645135) 8))) C dJ6_bitCount_0f7a4_39 rfl rfl ?_
  refine x_istore_n (pc' := 41) (L' := [some (.int ((((((a1 - ((ushr a1 1) &&& 1431655765)) &&& 858993459) + ((ushr (a1 - ((ushr a1 1) &&& 1431655765)) 2) &&& 858993459)) + (ushr (((a1 - ((ushr a1 1) &&& 1431655765)) &&& 858993459) + ((ushr (a1 - ((ushr a1 1) &&& 1431655765)) 2) &&& 858993459)) 4)) &&& 252645135) + (ushr (((((a1 - ((ushr a1 1) &&& 1431655765)) &&& 858993459) + ((ushr (a1 - ((ushr a1 1) &&& 1431655765)) 2) &&& 858993459)) + (ushr (((a1 - ((ushr a1 1) &&& 1431655765)) &&& 858993459) + ((ushr (a1 - ((ushr a1 1) &&& 1431655765)) 2) &&& 858993459)) 4)) &&& 252645135) 8)))]) C dJ6_bitCount_0f7a4_40 rfl rfl (Nat.le_of_ble_eq_true rfl) rfl ?_
  refine x_iload_n (pc' := 42) C dJ6_bitCount_0f7a4_41 rfl rfl rfl ?_
  refine x_iload_n (pc' := 43) C dJ6_bitCount_0f7a4_42 rfl rfl rfl ?_
  refine x_bipush (v := 16) (pc' := 45) C dJ6_bitCount_0f7a4_43 rfl (by decide) ?_
  refine x_iushr (pc' := 46) (v := (ushr ((((((a1 - ((ushr a1 1) &&& 1431655765)) &&& 858993459) + ((ushr (a1 - ((ushr a1 1) &&& 1431655765)) 2) &&& 858993459)) + (ushr (((a1 - ((ushr a1 1) &&& 1431655765)) &&& 858993459) + ((ushr (a1 - ((ushr a1 1) &&& 1431655765)) 2) &&& 858993459)) 4)) &&& 252645135) + (ushr (((((a1 - ((ushr a1 1) &&& 1431655765)) &&& 858993459) + ((ushr (a1 - ((ushr a1 1) &&& 1431655765)) 2) &&& 858993459)) + (ushr (((a1 - ((ushr a1 1) &&& 1431655765)) &&& 858993459) + ((ushr (a1 - ((ushr a1 1) &&& 1431655765)) 2) &&& 858993459)) 4)) &&& 252645135) 8)) 16)) C dJ6_bitCount_0f7a4_45 rfl rfl ?_
  refine x_iadd (pc' := 47) (v := (((((((a1 - ((ushr a1 1) &&& 1431655765)) &&& 858993459) + ((ushr (a1 - ((ushr a1 1) &&& 1431655765)) 2) &&& 858993459)) + (ushr (((a1 - ((ushr a1 1) &&& 1431655765)) &&& 858993459) + ((ushr (a1 - ((ushr a1 1) &&& 1431655765)) 2) &&& 858993459)) 4)) &&& 252645135) + (ushr (((((a1 - ((ushr a1 1) &&& 1431655765)) &&& 858993459) + ((ushr (a1 - ((ushr a1 1) &&& 1431655765)) 2) &&& 858993459)) + (ushr (((a1 - ((ushr a1 1) &&& 1431655765)) &&& 858993459) + ((ushr (a1 - ((ushr a1 1) &&& 1431655765)) 2) &&& 858993459)) 4)) &&& 252645135) 8)) + (ushr ((((((a1 - ((ushr a1 1) &&& 1431655765)) &&& 858993459) + ((ushr (a1 - ((ushr a1 1) &&& 1431655765)) 2) &&& 858993459)) + (ushr (((a1 - ((ushr a1 1) &&& 1431655765)) &&& 858993459) + ((ushr (a1 - ((ushr a1 1) &&& 1431655765)) 2) &&& 858993459)) 4)) &&& 252645135) + (ushr (((((a1 - ((ushr a1 1) &&& 1431655765)) &&& 858993459) + ((ushr (a1 - ((ushr a1 1) &&& 1431655765)) 2) &&& 858993459)) + (ushr (((a1 - ((ushr a1 1) &&& 1431655765)) &&& 858993459) + ((ushr (a1 - ((ushr a1 1) &&& 1431655765)) 2) &&& 858993459)) 4)) &&& 252645135) 8)) 16))) C dJ6_bitCount_0f7a4_46 rfl rfl ?_
  refine x_istore_n (pc' := 48) (L' := [some (.int (((((((a1 - ((ushr a1 1) &&& 1431655765)) &&& 858993459) + ((ushr (a1 - ((ushr a1 1) &&& 1431655765)) 2) &&& 858993459)) + (ushr (((a1 - ((ushr a1 1) &&& 1431655765)) &&& 858993459) + ((ushr (a1 - ((ushr a1 1) &&& 1431655765)) 2) &&& 858993459)) 4)) &&& 252645135) + (ushr (((((a1 - ((ushr a1 1) &&& 1431655765)) &&& 858993459) + ((ushr (a1 - ((ushr a1 1) &&& 1431655765)) 2) &&& 858993459)) + (ushr (((a1 - ((ushr a1 1) &&& 1431655765)) &&& 858993459) + ((ushr (a1 - ((ushr a1 1) &&& 1431655765)) 2) &&& 858993459)) 4)) &&& 252645135) 8)) + (ushr ((((((a1 - ((ushr a1 1) &&& 1431655765)) &&& 858993459) + ((ushr (a1 - ((ushr a1 1) &&& 1431655765)) 2) &&& 858993459)) + (ushr (((a1 - ((ushr a1 1) &&& 1431655765)) &&& 858993459) + ((ushr (a1 - ((ushr a1 1) &&& 1431655765)) 2) &&& 858993459)) 4)) &&& 252645135) + (ushr (((((a1 - ((ushr a1 1) &&& 1431655765)) &&& 858993459) + ((ushr (a1 - ((ushr a1 1) &&& 1431655765)) 2) &&& 858993459)) + (ushr (((a1 - ((ushr a1 1) &&& 1431655765)) &&& 858993459) + ((ushr (a1 - ((ushr a1 1) &&& 1431655765)) 2) &&& 858993459)) 4)) &&& 252645135) 8)) 16)))]) C dJ6_bitCount_0f7a4_47 rfl rfl (Nat.le_of_ble_eq_true rfl) rfl ?_
  refine x_iload_n (pc' := 49) C dJ6_bitCount_0f7a4_48 rfl rfl rfl ?_
  refine x_bipush (v := 63) (pc' := 51) C dJ6_bitCount_0f7a4_49 rfl (by decide) ?_
  refine x_iand (pc' := 52) (v := ((((((((a1 - ((ushr a1 1) &&& 1431655765)) &&& 858993459) + ((ushr (a1 - ((ushr a1 1) &&& 1431655765)) 2) &&& 858993459)) + (ushr (((a1 - ((ushr a1 1) &&& 1431655765)) &&& 858993459) + ((ushr (a1 - ((ushr a1 1) &&& 1431655765)) 2) &&& 858993459)) 4)) &&& 252645135) + (ushr (((((a1 - ((ushr a1 1) &&& 1431655765)) &&& 858993459) + ((ushr (a1 - ((ushr a1 1) &&& 1431655765)) 2) &&& 858993459)) + (ushr (((a1 - ((ushr a1 1) &&& 1431655765)) &&& 858993459) + ((ushr (a1 - ((ushr a1 1) &&& 1431655765)) 2) &&& 858993459)) 4)) &&& 252645135) 8)) + (ushr ((((((a1 - ((ushr a1 1) &&& 1431655765)) &&& 858993459) + ((ushr (a1 - ((ushr a1 1) &&& 1431655765)) 2) &&& 858993459)) + (ushr (((a1 - ((ushr a1 1) &&& 1431655765)) &&& 858993459) + ((ushr (a1 - ((ushr a1 1) &&& 1431655765)) 2) &&& 858993459)) 4)) &&& 252645135) + (ushr (((((a1 - ((ushr a1 1) &&& 1431655765)) &&& 858993459) + ((ushr (a1 - ((ushr a1 1) &&& 1431655765)) 2) &&& 858993459)) + (ushr (((a1 - ((ushr a1 1) &&& 1431655765)) &&& 858993459) + ((ushr (a1 - ((ushr a1 1) &&& 1431655765)) 2) &&& 858993459)) 4)) &&& 252645135) 8)) 16)) &&& 63)) C dJ6_bitCount_0f7a4_51 rfl rfl ?_
  exact x_iret C (Nat.zero_le _) (Nat.zero_le _) dJ6_bitCount_0f7a4_52 (by rw [hRES])

def f_X5_howMany (S : CS) : Int32 := (f_J6_bitCount_0f7a4 (S.1 0))
set_option maxRecDepth 100000 in
set_option maxHeartbeats 8000000 in
theorem c_X5_howMany (l : Launch) (g : GT) (h : Nat) (ad : Nat → Nat) (S : CS) : CR l yX5_howMany (.code yX5_howMany cX5_howMany 1 (some .int)) 1 g [.ref h] (wSt g h ad S) (some (.int (f_X5_howMany S))) := by
  obtain ⟨RES, hRES⟩ : ∃ z, z = (f_X5_howMany S) := ⟨_, rfl⟩
  rw [← hRES]
  unfold f_X5_howMany at hRES
  refine CRx.of (nL := 1) (ret := (some .int)) (own := RX5) (cc := cX5_howMany) rfl (by decide) rfl (List.forall_mem_cons.mpr ⟨rfl, (fun _ h => absurd h List.not_mem_nil)⟩) (Nat.le_of_ble_eq_true rfl) ?_
  intro k C hkl hkg
  subst hkl; subst hkg
  refine x_loc2 (L' := [some (.ref h)]) rfl ?_
  refine x_aload_n (pc' := 1) C dX5_howMany_0 rfl rfl rfl ?_
  refine x_get (pc' := 4) (v := .int (S.1 0)) C 0 0 inBX5 rfl rfl (by decide) fl_X5_9 rfl rfl dX5_howMany_1 rfl ?_
  refine x_RS (st := []) (st2 := [.int (f_J6_bitCount_0f7a4 (S.1 0))]) (pc' := 7) C (c_J6_bitCount_0f7a4 (kl k) (kg k) (S.1 0)) cw_X5_110 ok_J6_bitCount_0f7a4 (by decide) [] rfl rfl rfl (Nat.le_of_ble_eq_true rfl) (Nat.zero_le _) (Nat.zero_le _) rfl dX5_howMany_4 rfl rfl ?_
  exact x_iret C (Nat.zero_le _) (Nat.zero_le _) dX5_howMany_7 (by rw [hRES])

def f_X5_trees (S : CS) : Int32 := (f_J6_bitCount_0f7a4 (S.1 2))
set_option maxRecDepth 100000 in
set_option maxHeartbeats 8000000 in
theorem c_X5_trees (l : Launch) (g : GT) (h : Nat) (ad : Nat → Nat) (S : CS) : CR l yX5_trees (.code yX5_trees cX5_trees 1 (some .int)) 1 g [.ref h] (wSt g h ad S) (some (.int (f_X5_trees S))) := by
  obtain ⟨RES, hRES⟩ : ∃ z, z = (f_X5_trees S) := ⟨_, rfl⟩
  rw [← hRES]
  unfold f_X5_trees at hRES
  refine CRx.of (nL := 1) (ret := (some .int)) (own := RX5) (cc := cX5_trees) rfl (by decide) rfl (List.forall_mem_cons.mpr ⟨rfl, (fun _ h => absurd h List.not_mem_nil)⟩) (Nat.le_of_ble_eq_true rfl) ?_
  intro k C hkl hkg
  subst hkl; subst hkg
  refine x_loc2 (L' := [some (.ref h)]) rfl ?_
  refine x_aload_n (pc' := 1) C dX5_trees_0 rfl rfl rfl ?_
  refine x_get (pc' := 4) (v := .int (S.1 2)) C 0 2 inBX5 rfl rfl (by decide) fl_X5_15 rfl rfl dX5_trees_1 rfl ?_
  refine x_RS (st := []) (st2 := [.int (f_J6_bitCount_0f7a4 (S.1 2))]) (pc' := 7) C (c_J6_bitCount_0f7a4 (kl k) (kg k) (S.1 2)) cw_X5_110 ok_J6_bitCount_0f7a4 (by decide) [] rfl rfl rfl (Nat.le_of_ble_eq_true rfl) (Nat.zero_le _) (Nat.zero_le _) rfl dX5_trees_4 rfl rfl ?_
  exact x_iret C (Nat.zero_le _) (Nat.zero_le _) dX5_trees_7 (by rw [hRES])

def f_X5_cuts (S : CS) : Int32 := (bind1 (f_J6_bitCount_0f7a4 ((S.1 0 &&& (S.1 1 ^^^ (-1))) &&& ((f_X4_of 0) ^^^ (-1)))) (fun z1 => z1))
set_option maxRecDepth 100000 in
set_option maxHeartbeats 8000000 in
theorem c_X5_cuts (l : Launch) (g : GT) (h : Nat) (ad : Nat → Nat) (S : CS) : CR l yX5_cuts (.code yX5_cuts cX5_cuts 1 (some .int)) 1 g [.ref h] (wSt g h ad S) (some (.int (f_X5_cuts S))) := by
  obtain ⟨RES, hRES⟩ : ∃ z, z = (f_X5_cuts S) := ⟨_, rfl⟩
  rw [← hRES]
  unfold f_X5_cuts at hRES
  refine CRx.of (nL := 1) (ret := (some .int)) (own := RX5) (cc := cX5_cuts) rfl (by decide) rfl (List.forall_mem_cons.mpr ⟨rfl, (fun _ h => absurd h List.not_mem_nil)⟩) (Nat.le_of_ble_eq_true rfl) ?_
  intro k C hkl hkg
  subst hkl; subst hkg
  refine x_loc2 (L' := [some (.ref h)]) rfl ?_
  refine x_aload_n (pc' := 1) C dX5_cuts_0 rfl rfl rfl ?_
  refine x_get (pc' := 4) (v := .int (S.1 0)) C 0 0 inBX5 rfl rfl (by decide) fl_X5_9 rfl rfl dX5_cuts_1 rfl ?_
  refine x_aload_n (pc' := 5) C dX5_cuts_4 rfl rfl rfl ?_
  refine x_get (pc' := 8) (v := .int (S.1 1)) C 0 1 inBX5 rfl rfl (by decide) fl_X5_37 rfl rfl dX5_cuts_5 rfl ?_
  refine x_iconst (v := (-1)) (pc' := 9) C dX5_cuts_8 rfl (by decide) ?_
  refine x_ixor (pc' := 10) (v := (S.1 1 ^^^ (-1))) C dX5_cuts_9 rfl rfl ?_
  refine x_iand (pc' := 11) (v := (S.1 0 &&& (S.1 1 ^^^ (-1)))) C dX5_cuts_10 rfl rfl ?_
  refine x_iconst (v := 0) (pc' := 12) C dX5_cuts_11 rfl (by decide) ?_
  refine x_RS (st := [.int (S.1 0 &&& (S.1 1 ^^^ (-1)))]) (st2 := [.int (f_X4_of 0), .int (S.1 0 &&& (S.1 1 ^^^ (-1)))]) (pc' := 15) C (c_X4_of (kl k) (kg k) 0) cw_X5_80 ok_X4_of (by decide) [] rfl rfl rfl (Nat.le_of_ble_eq_true rfl) (Nat.zero_le _) (Nat.zero_le _) rfl dX5_cuts_12 rfl rfl ?_
  refine x_iconst (v := (-1)) (pc' := 16) C dX5_cuts_15 rfl (by decide) ?_
  refine x_ixor (pc' := 17) (v := ((f_X4_of 0) ^^^ (-1))) C dX5_cuts_16 rfl rfl ?_
  refine x_iand (pc' := 18) (v := ((S.1 0 &&& (S.1 1 ^^^ (-1))) &&& ((f_X4_of 0) ^^^ (-1)))) C dX5_cuts_17 rfl rfl ?_
  obtain ⟨z1, ez1⟩ : ∃ z, z = (f_J6_bitCount_0f7a4 ((S.1 0 &&& (S.1 1 ^^^ (-1))) &&& ((f_X4_of 0) ^^^ (-1)))) := ⟨_, rfl⟩
  replace hRES := bd hRES z1 ez1
  have hc := c_J6_bitCount_0f7a4 (kl k) (kg k) ((S.1 0 &&& (S.1 1 ^^^ (-1))) &&& ((f_X4_of 0) ^^^ (-1)))
  rw [← ez1] at hc
  refine x_RS (st := []) (st2 := [.int z1]) (pc' := 21) C hc cw_X5_110 ok_J6_bitCount_0f7a4 (by decide) [] rfl rfl rfl (Nat.le_of_ble_eq_true rfl) (Nat.zero_le _) (Nat.zero_le _) rfl dX5_cuts_18 rfl rfl ?_
  exact x_iret C (Nat.zero_le _) (Nat.zero_le _) dX5_cuts_21 (by rw [hRES])

def f_X5_roomOf (S : CS) (a1 : Int32) : Int32 := (1 + (2 * (f_J6_bitCount_0f7a4 (f_X5_differenceOf S a1))))
set_option maxRecDepth 100000 in
set_option maxHeartbeats 8000000 in
theorem c_X5_roomOf (l : Launch) (g : GT) (h : Nat) (ad : Nat → Nat) (S : CS) (a1 : Int32) : CR l yX5_roomOf (.code yX5_roomOf cX5_roomOf 2 (some .int)) 2 g [.ref h, .int a1] (wSt g h ad S) (some (.int (f_X5_roomOf S a1))) := by
  obtain ⟨RES, hRES⟩ : ∃ z, z = (f_X5_roomOf S a1) := ⟨_, rfl⟩
  rw [← hRES]
  unfold f_X5_roomOf at hRES
  refine CRx.of (nL := 2) (ret := (some .int)) (own := RX5) (cc := cX5_roomOf) rfl (by decide) rfl (List.forall_mem_cons.mpr ⟨rfl, (List.forall_mem_cons.mpr ⟨rfl, (fun _ h => absurd h List.not_mem_nil)⟩)⟩) (Nat.le_of_ble_eq_true rfl) ?_
  intro k C hkl hkg
  subst hkl; subst hkg
  refine x_loc2 (L' := [some (.ref h), some (.int a1)]) rfl ?_
  refine x_iconst (v := 1) (pc' := 1) C dX5_roomOf_0 rfl (by decide) ?_
  refine x_iconst (v := 2) (pc' := 2) C dX5_roomOf_1 rfl (by decide) ?_
  refine x_aload_n (pc' := 3) C dX5_roomOf_2 rfl rfl rfl ?_
  refine x_iload_n (pc' := 4) C dX5_roomOf_3 rfl rfl rfl ?_
  refine x_RV (st := [.int 2, .int 1]) (st2 := [.int (f_X5_differenceOf S a1), .int 2, .int 1]) (pc' := 7) C (c_X5_differenceOf (kl k) (kg k) h ad S a1) cw_X5_115 ok_X5_differenceOf rfl (by decide) 0 rfl rfl [0, 1, 2, 3, 4] rfl rfl rfl (Nat.le_of_ble_eq_true rfl) (Nat.zero_le _) (Nat.zero_le _) rfl dX5_roomOf_4 rfl rfl ?_
  refine x_RS (st := [.int 2, .int 1]) (st2 := [.int (f_J6_bitCount_0f7a4 (f_X5_differenceOf S a1)), .int 2, .int 1]) (pc' := 10) C (c_J6_bitCount_0f7a4 (kl k) (kg k) (f_X5_differenceOf S a1)) cw_X5_110 ok_J6_bitCount_0f7a4 (by decide) [] rfl rfl rfl (Nat.le_of_ble_eq_true rfl) (Nat.zero_le _) (Nat.zero_le _) rfl dX5_roomOf_7 rfl rfl ?_
  refine x_imul (pc' := 11) (v := (2 * (f_J6_bitCount_0f7a4 (f_X5_differenceOf S a1)))) C dX5_roomOf_10 rfl rfl ?_
  refine x_iadd (pc' := 12) (v := (1 + (2 * (f_J6_bitCount_0f7a4 (f_X5_differenceOf S a1))))) C dX5_roomOf_11 rfl rfl ?_
  exact x_iret C (Nat.zero_le _) (Nat.zero_le _) dX5_roomOf_12 (by rw [hRES])

def k_X5_room_38 (x1_38 : Int32) : Int32 := x1_38
def l_X5_room_10 (S : CS) : Nat → Int32 → Nat → Int32
  | 0, _, _ => 0
  | n10 + 1, x1_10, i2_10 => (if i2_10 < 24 then (if (f_X5_isKept S (nI i2_10)) = true then (l_X5_room_10 S n10 (x1_10 + (f_X5_roomOf S (nI i2_10))) (i2_10 + 1)) else (l_X5_room_10 S n10 x1_10 (i2_10 + 1))) else (k_X5_room_38 x1_10))
def f_X5_room (S : CS) : Int32 := (l_X5_room_10 S 24 (8 * (f_X5_trees S)) 1)
set_option maxRecDepth 100000 in
set_option maxHeartbeats 8000000 in
theorem c_X5_room (l : Launch) (g : GT) (h : Nat) (ad : Nat → Nat) (S : CS) : CR l yX5_room (.code yX5_room cX5_room 3 (some .int)) 3 g [.ref h] (wSt g h ad S) (some (.int (f_X5_room S))) := by
  obtain ⟨RES, hRES⟩ : ∃ z, z = (f_X5_room S) := ⟨_, rfl⟩
  rw [← hRES]
  unfold f_X5_room at hRES
  refine CRx.of (nL := 3) (ret := (some .int)) (own := RX5) (cc := cX5_room) rfl (by decide) rfl (List.forall_mem_cons.mpr ⟨rfl, (fun _ h => absurd h List.not_mem_nil)⟩) (Nat.le_of_ble_eq_true rfl) ?_
  intro k C hkl hkg
  subst hkl; subst hkg
  refine x_loc2 (L' := [some (.ref h), none, none]) rfl ?_
  refine x_bipush (v := 8) (pc' := 2) C dX5_room_0 rfl (by decide) ?_
  refine x_aload_n (pc' := 3) C dX5_room_2 rfl rfl rfl ?_
  refine x_RV (st := [.int 8]) (st2 := [.int (f_X5_trees S), .int 8]) (pc' := 6) C (c_X5_trees (kl k) (kg k) h ad S) cw_X5_118 ok_X5_trees rfl (by decide) 0 rfl rfl [0, 1, 2, 3, 4] rfl rfl rfl (Nat.le_of_ble_eq_true rfl) (Nat.zero_le _) (Nat.zero_le _) rfl dX5_room_3 rfl rfl ?_
  refine x_imul (pc' := 7) (v := (8 * (f_X5_trees S))) C dX5_room_6 rfl rfl ?_
  refine x_istore_n (pc' := 8) (L' := [some (.ref h), some (.int (8 * (f_X5_trees S))), none]) C dX5_room_7 rfl rfl (Nat.le_of_ble_eq_true rfl) rfl ?_
  refine x_iconst (v := 1) (pc' := 9) C dX5_room_8 rfl (by decide) ?_
  refine x_istore_n (pc' := 10) (L' := [some (.ref h), some (.int (8 * (f_X5_trees S))), some (.int 1)]) C dX5_room_9 rfl rfl (Nat.le_of_ble_eq_true rfl) rfl ?_
  have cont38 : ∀ (x1_38 : Int32), RES = k_X5_room_38 x1_38 → X k 0 0 (wSt (kg k) h ad S) 38 [none, some (.int x1_38), none] [] := by
    intro x1_38 hRES
    unfold k_X5_room_38 at hRES
    refine x_iload_n (pc' := 39) C dX5_room_38 rfl rfl rfl ?_
    exact x_iret C (Nat.zero_le _) (Nat.zero_le _) dX5_room_39 (by rw [hRES])
  have loop10 : ∀ (n10 : Nat) (x1_10 : Int32) (i2_10 : Nat), i2_10 ≤ 24 → 24 < i2_10 + n10 → RES = l_X5_room_10 S n10 x1_10 i2_10 → X k 0 0 (wSt (kg k) h ad S) 10 [some (.ref h), some (.int x1_10), some (.int (nI i2_10))] [] := by
    intro n10
    induction n10 with
    | zero =>
      intro x1_10 i2_10 hb10 hf10 hRES
      omega
    | succ n10 ih10 =>
      intro x1_10 i2_10 hb10 hf10 hRES
      rw [l_X5_room_10] at hRES
      refine x_iload_n (pc' := 11) C dX5_room_10 rfl rfl rfl ?_
      refine x_bipush (v := 24) (pc' := 13) C dX5_room_11 rfl (by decide) ?_
      refine x_icmpN_ge (tgt := 38) (pc' := 16) C i2_10 24 dX5_room_13 (by decide) rfl (by omega) (by omega) (fun c1 => ?_) (fun c1 => ?_)
      · rw [if_neg c1] at hRES
        refine x_forget (L' := [none, some (.int x1_10), none]) [1] rfl rfl ?_
        exact cont38 x1_10 hRES
      · rw [if_pos c1] at hRES
        refine x_aload_n (pc' := 17) C dX5_room_16 rfl rfl rfl ?_
        refine x_iload_n (pc' := 18) C dX5_room_17 rfl rfl rfl ?_
        refine x_RV (st := []) (st2 := [.int (bI (f_X5_isKept S (nI i2_10)))]) (pc' := 21) C (c_X5_isKept (kl k) (kg k) h ad S (nI i2_10)) cw_X5_122 ok_X5_isKept rfl (by decide) 0 rfl rfl [0, 1, 2, 3, 4] rfl rfl rfl (Nat.le_of_ble_eq_true rfl) (Nat.zero_le _) (Nat.zero_le _) rfl dX5_room_18 rfl rfl ?_
        refine x_ifB_eq (tgt := 32) (pc' := 24) C dX5_room_21 (by decide) rfl (fun c2 => ?_) (fun c2 => ?_)
        · rw [if_neg c2] at hRES
          refine x_iinc (pc' := 35) (v := (nI (i2_10 + 1))) (L' := [some (.ref h), some (.int x1_10), some (.int (nI (i2_10 + 1)))]) C dX5_room_32 rfl rfl (nI_add i2_10 1) (Nat.le_of_ble_eq_true rfl) rfl ?_
          refine x_goto (tgt := 10) C dX5_room_35 (by decide) ?_
          exact ih10 x1_10 (i2_10 + 1) (by omega) (by omega) hRES
        · rw [if_pos c2] at hRES
          refine x_iload_n (pc' := 25) C dX5_room_24 rfl rfl rfl ?_
          refine x_aload_n (pc' := 26) C dX5_room_25 rfl rfl rfl ?_
          refine x_iload_n (pc' := 27) C dX5_room_26 rfl rfl rfl ?_
          refine x_RV (st := [.int x1_10]) (st2 := [.int (f_X5_roomOf S (nI i2_10)), .int x1_10]) (pc' := 30) C (c_X5_roomOf (kl k) (kg k) h ad S (nI i2_10)) cw_X5_125 ok_X5_roomOf rfl (by decide) 0 rfl rfl [0, 1, 2, 3, 4] rfl rfl rfl (Nat.le_of_ble_eq_true rfl) (Nat.zero_le _) (Nat.zero_le _) rfl dX5_room_27 rfl rfl ?_
          refine x_iadd (pc' := 31) (v := (x1_10 + (f_X5_roomOf S (nI i2_10)))) C dX5_room_30 rfl rfl ?_
          refine x_istore_n (pc' := 32) (L' := [some (.ref h), some (.int (x1_10 + (f_X5_roomOf S (nI i2_10)))), some (.int (nI i2_10))]) C dX5_room_31 rfl rfl (Nat.le_of_ble_eq_true rfl) rfl ?_
          refine x_iinc (pc' := 35) (v := (nI (i2_10 + 1))) (L' := [some (.ref h), some (.int (x1_10 + (f_X5_roomOf S (nI i2_10)))), some (.int (nI (i2_10 + 1)))]) C dX5_room_32 rfl rfl (nI_add i2_10 1) (Nat.le_of_ble_eq_true rfl) rfl ?_
          refine x_goto (tgt := 10) C dX5_room_35 (by decide) ?_
          exact ih10 (x1_10 + (f_X5_roomOf S (nI i2_10))) (i2_10 + 1) (by omega) (by omega) hRES
  exact loop10 24 (8 * (f_X5_trees S)) 1 (by omega) (by omega) hRES

def f_X5_copyFrom (S : CS) (T : CS) : CS := (bind1 (setI S 0 (T.1 0)) (fun z1 => (bind1 (setI z1 1 (T.1 1)) (fun z2 => (bind1 (setI z2 2 (T.1 2)) (fun z3 => (bind1 (setF z3 3 (f_X3_copy 24 (T.2 3) 24 (z3.2 3))) (fun z4 => (bind1 (setF z4 4 (f_X3_copy 24 (T.2 4) 24 (z4.2 4))) (fun z5 => (bind1 (setF z5 5 (f_X3_copy 24 (T.2 5) 24 (z5.2 5))) (fun z6 => (bind1 (setF z6 6 (f_X3_copy 192 (T.2 6) 192 (z6.2 6))) (fun z7 => (bind1 (setI z7 7 (T.1 7)) (fun z8 => (bind1 (setI z8 8 (T.1 8)) (fun z9 => (bind1 (setI z9 9 (T.1 9)) (fun z10 => (bind1 (setI z10 10 (T.1 10)) (fun z11 => (bind1 (setI z11 11 (T.1 11)) (fun z12 => (bind1 (setI z12 12 (T.1 12)) (fun z13 => z13))))))))))))))))))))))))))
set_option maxRecDepth 100000 in
set_option maxHeartbeats 8000000 in
theorem c_X5_copyFrom (l : Launch) (g : GT) (h : Nat) (ad : Nat → Nat) (S : CS) (h1 : Nat) (ad1 : Nat → Nat) (T : CS) : CW l yX5_copyFrom (.code yX5_copyFrom cX5_copyFrom 2 none) 2 g [.ref h, .ref h1] ((wSt g h ad S) ++ (wSt g h1 ad1 T)) none ((wSt g h ad (f_X5_copyFrom S T)) ++ (wSt g h1 ad1 T)) := by
  obtain ⟨RES, hRES⟩ : ∃ z, z = (f_X5_copyFrom S T) := ⟨_, rfl⟩
  rw [← hRES]
  unfold f_X5_copyFrom at hRES
  refine CWx.of (nL := 2) (ret := none) (own := RX5) (cc := cX5_copyFrom) rfl (by decide) rfl (List.forall_mem_cons.mpr ⟨rfl, (List.forall_mem_cons.mpr ⟨rfl, (fun _ h => absurd h List.not_mem_nil)⟩)⟩) (Nat.le_of_ble_eq_true rfl) ?_
  intro k C B hin hkl hkg
  subst hkl; subst hkg
  refine x_loc2 (L' := [some (.ref h), some (.ref h1)]) rfl ?_
  refine x_aload_n (pc' := 1) C dX5_copyFrom_0 rfl rfl rfl ?_
  refine x_aload_n (pc' := 2) C dX5_copyFrom_1 rfl rfl rfl ?_
  refine x_get (pc' := 5) (v := .int (T.1 0)) C 5 0 inBX5 rfl rfl (by decide) fl_X5_9 rfl rfl dX5_copyFrom_2 rfl ?_
  obtain ⟨z1, ez1⟩ : ∃ z, z = (setI S 0 (T.1 0)) := ⟨_, rfl⟩
  replace hRES := bd hRES z1 ez1
  refine x_put (pc' := 8) (w' := (wSt (kg k) h ad z1) ++ (wSt (kg k) h1 ad1 T)) (ty := .int) C B 0 0 inBX5 tyX5 tyX5_ok nmX5 rfl rfl (by decide) fl_X5_9 rfl rfl rfl rfl rfl (Nat.le_of_ble_eq_true rfl) dX5_copyFrom_5 rfl (by rw [ez1]; rfl) ?_
  refine x_aload_n (pc' := 9) C dX5_copyFrom_8 rfl rfl rfl ?_
  refine x_aload_n (pc' := 10) C dX5_copyFrom_9 rfl rfl rfl ?_
  refine x_get (pc' := 13) (v := .int (T.1 1)) C 5 1 inBX5 rfl rfl (by decide) fl_X5_37 rfl rfl dX5_copyFrom_10 rfl ?_
  obtain ⟨z2, ez2⟩ : ∃ z, z = (setI z1 1 (T.1 1)) := ⟨_, rfl⟩
  replace hRES := bd hRES z2 ez2
  refine x_put (pc' := 16) (w' := (wSt (kg k) h ad z2) ++ (wSt (kg k) h1 ad1 T)) (ty := .int) C B 0 1 inBX5 tyX5 tyX5_ok nmX5 rfl rfl (by decide) fl_X5_37 rfl rfl rfl rfl rfl (Nat.le_of_ble_eq_true rfl) dX5_copyFrom_13 rfl (by rw [ez2]; rfl) ?_
  refine x_aload_n (pc' := 17) C dX5_copyFrom_16 rfl rfl rfl ?_
  refine x_aload_n (pc' := 18) C dX5_copyFrom_17 rfl rfl rfl ?_
  refine x_get (pc' := 21) (v := .int (T.1 2)) C 5 2 inBX5 rfl rfl (by decide) fl_X5_15 rfl rfl dX5_copyFrom_18 rfl ?_
  obtain ⟨z3, ez3⟩ : ∃ z, z = (setI z2 2 (T.1 2)) := ⟨_, rfl⟩
  replace hRES := bd hRES z3 ez3
  refine x_put (pc' := 24) (w' := (wSt (kg k) h ad z3) ++ (wSt (kg k) h1 ad1 T)) (ty := .int) C B 0 2 inBX5 tyX5 tyX5_ok nmX5 rfl rfl (by decide) fl_X5_15 rfl rfl rfl rfl rfl (Nat.le_of_ble_eq_true rfl) dX5_copyFrom_21 rfl (by rw [ez3]; rfl) ?_
  refine x_aload_n (pc' := 25) C dX5_copyFrom_24 rfl rfl rfl ?_
  refine x_get (pc' := 28) (v := .ref (ad1 3)) C 5 3 inBX5 rfl rfl (by decide) fl_X5_18 rfl rfl dX5_copyFrom_25 rfl ?_
  refine x_aload_n (pc' := 29) C dX5_copyFrom_28 rfl rfl rfl ?_
  refine x_get (pc' := 32) (v := .ref (ad 3)) C 0 3 inBX5 rfl rfl (by decide) fl_X5_18 rfl rfl dX5_copyFrom_29 rfl ?_
  obtain ⟨z4, ez4⟩ : ∃ z, z = (setF z3 3 (f_X3_copy 24 (T.2 3) 24 (z3.2 3))) := ⟨_, rfl⟩
  replace hRES := bd hRES z4 ez4
  refine x_WS (st := []) (st2 := []) (pc' := 35) C B (c_X3_copy (kl k) (kg k) (ad1 3) 24 (T.2 3) (ad 3) 24 (z3.2 3) (by decide) (by decide)) cw_X5_40 ok_X3_copy (by decide) [6, 1] [0, 2, 3, 4, 5, 7, 8, 9] [0, 9, 1, 2, 3, 4, 8, 5, 6, 7] ((wSt (kg k) h ad z4) ++ (wSt (kg k) h1 ad1 T)) rfl rfl rfl rfl (by decide) rfl (by rw [ez4]; rfl) rfl (Nat.le_of_ble_eq_true rfl) (Nat.zero_le _) (Nat.zero_le _) rfl dX5_copyFrom_32 rfl rfl ?_
  refine x_aload_n (pc' := 36) C dX5_copyFrom_35 rfl rfl rfl ?_
  refine x_get (pc' := 39) (v := .ref (ad1 4)) C 5 4 inBX5 rfl rfl (by decide) fl_X5_22 rfl rfl dX5_copyFrom_36 rfl ?_
  refine x_aload_n (pc' := 40) C dX5_copyFrom_39 rfl rfl rfl ?_
  refine x_get (pc' := 43) (v := .ref (ad 4)) C 0 4 inBX5 rfl rfl (by decide) fl_X5_22 rfl rfl dX5_copyFrom_40 rfl ?_
  obtain ⟨z5, ez5⟩ : ∃ z, z = (setF z4 4 (f_X3_copy 24 (T.2 4) 24 (z4.2 4))) := ⟨_, rfl⟩
  replace hRES := bd hRES z5 ez5
  refine x_WS (st := []) (st2 := []) (pc' := 46) C B (c_X3_copy (kl k) (kg k) (ad1 4) 24 (T.2 4) (ad 4) 24 (z4.2 4) (by decide) (by decide)) cw_X5_40 ok_X3_copy (by decide) [7, 2] [0, 1, 3, 4, 5, 6, 8, 9] [0, 1, 9, 2, 3, 4, 5, 8, 6, 7] ((wSt (kg k) h ad z5) ++ (wSt (kg k) h1 ad1 T)) rfl rfl rfl rfl (by decide) rfl (by rw [ez5]; rfl) rfl (Nat.le_of_ble_eq_true rfl) (Nat.zero_le _) (Nat.zero_le _) rfl dX5_copyFrom_43 rfl rfl ?_
  refine x_aload_n (pc' := 47) C dX5_copyFrom_46 rfl rfl rfl ?_
  refine x_get (pc' := 50) (v := .ref (ad1 5)) C 5 5 inBX5 rfl rfl (by decide) fl_X5_25 rfl rfl dX5_copyFrom_47 rfl ?_
  refine x_aload_n (pc' := 51) C dX5_copyFrom_50 rfl rfl rfl ?_
  refine x_get (pc' := 54) (v := .ref (ad 5)) C 0 5 inBX5 rfl rfl (by decide) fl_X5_25 rfl rfl dX5_copyFrom_51 rfl ?_
  obtain ⟨z6, ez6⟩ : ∃ z, z = (setF z5 5 (f_X3_copy 24 (T.2 5) 24 (z5.2 5))) := ⟨_, rfl⟩
  replace hRES := bd hRES z6 ez6
  refine x_WS (st := []) (st2 := []) (pc' := 57) C B (c_X3_copy (kl k) (kg k) (ad1 5) 24 (T.2 5) (ad 5) 24 (z5.2 5) (by decide) (by decide)) cw_X5_40 ok_X3_copy (by decide) [8, 3] [0, 1, 2, 4, 5, 6, 7, 9] [0, 1, 2, 9, 3, 4, 5, 6, 8, 7] ((wSt (kg k) h ad z6) ++ (wSt (kg k) h1 ad1 T)) rfl rfl rfl rfl (by decide) rfl (by rw [ez6]; rfl) rfl (Nat.le_of_ble_eq_true rfl) (Nat.zero_le _) (Nat.zero_le _) rfl dX5_copyFrom_54 rfl rfl ?_
  refine x_aload_n (pc' := 58) C dX5_copyFrom_57 rfl rfl rfl ?_
  refine x_get (pc' := 61) (v := .ref (ad1 6)) C 5 6 inBX5 rfl rfl (by decide) fl_X5_28 rfl rfl dX5_copyFrom_58 rfl ?_
  refine x_aload_n (pc' := 62) C dX5_copyFrom_61 rfl rfl rfl ?_
  refine x_get (pc' := 65) (v := .ref (ad 6)) C 0 6 inBX5 rfl rfl (by decide) fl_X5_28 rfl rfl dX5_copyFrom_62 rfl ?_
  obtain ⟨z7, ez7⟩ : ∃ z, z = (setF z6 6 (f_X3_copy 192 (T.2 6) 192 (z6.2 6))) := ⟨_, rfl⟩
  replace hRES := bd hRES z7 ez7
  refine x_WS (st := []) (st2 := []) (pc' := 68) C B (c_X3_copy (kl k) (kg k) (ad1 6) 192 (T.2 6) (ad 6) 192 (z6.2 6) (by decide) (by decide)) cw_X5_40 ok_X3_copy (by decide) [9, 4] [0, 1, 2, 3, 5, 6, 7, 8] [0, 1, 2, 3, 9, 4, 5, 6, 7, 8] ((wSt (kg k) h ad z7) ++ (wSt (kg k) h1 ad1 T)) rfl rfl rfl rfl (by decide) rfl (by rw [ez7]; rfl) rfl (Nat.le_of_ble_eq_true rfl) (Nat.zero_le _) (Nat.zero_le _) rfl dX5_copyFrom_65 rfl rfl ?_
  refine x_aload_n (pc' := 69) C dX5_copyFrom_68 rfl rfl rfl ?_
  refine x_aload_n (pc' := 70) C dX5_copyFrom_69 rfl rfl rfl ?_
  refine x_get (pc' := 73) (v := .int (T.1 7)) C 5 7 inBX5 rfl rfl (by decide) fl_X5_31 rfl rfl dX5_copyFrom_70 rfl ?_
  obtain ⟨z8, ez8⟩ : ∃ z, z = (setI z7 7 (T.1 7)) := ⟨_, rfl⟩
  replace hRES := bd hRES z8 ez8
  refine x_put (pc' := 76) (w' := (wSt (kg k) h ad z8) ++ (wSt (kg k) h1 ad1 T)) (ty := .int) C B 0 7 inBX5 tyX5 tyX5_ok nmX5 rfl rfl (by decide) fl_X5_31 rfl rfl rfl rfl rfl (Nat.le_of_ble_eq_true rfl) dX5_copyFrom_73 rfl (by rw [ez8]; rfl) ?_
  refine x_aload_n (pc' := 77) C dX5_copyFrom_76 rfl rfl rfl ?_
  refine x_aload_n (pc' := 78) C dX5_copyFrom_77 rfl rfl rfl ?_
  refine x_get (pc' := 81) (v := .int (T.1 8)) C 5 8 inBX5 rfl rfl (by decide) fl_X5_34 rfl rfl dX5_copyFrom_78 rfl ?_
  obtain ⟨z9, ez9⟩ : ∃ z, z = (setI z8 8 (T.1 8)) := ⟨_, rfl⟩
  replace hRES := bd hRES z9 ez9
  refine x_put (pc' := 84) (w' := (wSt (kg k) h ad z9) ++ (wSt (kg k) h1 ad1 T)) (ty := .int) C B 0 8 inBX5 tyX5 tyX5_ok nmX5 rfl rfl (by decide) fl_X5_34 rfl rfl rfl rfl rfl (Nat.le_of_ble_eq_true rfl) dX5_copyFrom_81 rfl (by rw [ez9]; rfl) ?_
  refine x_aload_n (pc' := 85) C dX5_copyFrom_84 rfl rfl rfl ?_
  refine x_aload_n (pc' := 86) C dX5_copyFrom_85 rfl rfl rfl ?_
  refine x_get (pc' := 89) (v := .int (T.1 9)) C 5 9 inBX5 rfl rfl (by decide) fl_X5_46 rfl rfl dX5_copyFrom_86 rfl ?_
  obtain ⟨z10, ez10⟩ : ∃ z, z = (setI z9 9 (T.1 9)) := ⟨_, rfl⟩
  replace hRES := bd hRES z10 ez10
  refine x_put (pc' := 92) (w' := (wSt (kg k) h ad z10) ++ (wSt (kg k) h1 ad1 T)) (ty := .int) C B 0 9 inBX5 tyX5 tyX5_ok nmX5 rfl rfl (by decide) fl_X5_46 rfl rfl rfl rfl rfl (Nat.le_of_ble_eq_true rfl) dX5_copyFrom_89 rfl (by rw [ez10]; rfl) ?_
  refine x_aload_n (pc' := 93) C dX5_copyFrom_92 rfl rfl rfl ?_
  refine x_aload_n (pc' := 94) C dX5_copyFrom_93 rfl rfl rfl ?_
  refine x_get (pc' := 97) (v := .int (T.1 10)) C 5 10 inBX5 rfl rfl (by decide) fl_X5_49 rfl rfl dX5_copyFrom_94 rfl ?_
  obtain ⟨z11, ez11⟩ : ∃ z, z = (setI z10 10 (T.1 10)) := ⟨_, rfl⟩
  replace hRES := bd hRES z11 ez11
  refine x_put (pc' := 100) (w' := (wSt (kg k) h ad z11) ++ (wSt (kg k) h1 ad1 T)) (ty := .int) C B 0 10 inBX5 tyX5 tyX5_ok nmX5 rfl rfl (by decide) fl_X5_49 rfl rfl rfl rfl rfl (Nat.le_of_ble_eq_true rfl) dX5_copyFrom_97 rfl (by rw [ez11]; rfl) ?_
  refine x_aload_n (pc' := 101) C dX5_copyFrom_100 rfl rfl rfl ?_
  refine x_aload_n (pc' := 102) C dX5_copyFrom_101 rfl rfl rfl ?_
  refine x_get (pc' := 105) (v := .int (T.1 11)) C 5 11 inBX5 rfl rfl (by decide) fl_X5_52 rfl rfl dX5_copyFrom_102 rfl ?_
  obtain ⟨z12, ez12⟩ : ∃ z, z = (setI z11 11 (T.1 11)) := ⟨_, rfl⟩
  replace hRES := bd hRES z12 ez12
  refine x_put (pc' := 108) (w' := (wSt (kg k) h ad z12) ++ (wSt (kg k) h1 ad1 T)) (ty := .int) C B 0 11 inBX5 tyX5 tyX5_ok nmX5 rfl rfl (by decide) fl_X5_52 rfl rfl rfl rfl rfl (Nat.le_of_ble_eq_true rfl) dX5_copyFrom_105 rfl (by rw [ez12]; rfl) ?_
  refine x_aload_n (pc' := 109) C dX5_copyFrom_108 rfl rfl rfl ?_
  refine x_aload_n (pc' := 110) C dX5_copyFrom_109 rfl rfl rfl ?_
  refine x_get (pc' := 113) (v := .int (T.1 12)) C 5 12 inBX5 rfl rfl (by decide) fl_X5_55 rfl rfl dX5_copyFrom_110 rfl ?_
  obtain ⟨z13, ez13⟩ : ∃ z, z = (setI z12 12 (T.1 12)) := ⟨_, rfl⟩
  replace hRES := bd hRES z13 ez13
  refine x_put (pc' := 116) (w' := (wSt (kg k) h ad z13) ++ (wSt (kg k) h1 ad1 T)) (ty := .int) C B 0 12 inBX5 tyX5 tyX5_ok nmX5 rfl rfl (by decide) fl_X5_55 rfl rfl rfl rfl rfl (Nat.le_of_ble_eq_true rfl) dX5_copyFrom_113 rfl (by rw [ez13]; rfl) ?_
  exact x_vret C (Nat.zero_le _) (Nat.zero_le _) dX5_copyFrom_116 ⟨rfl, by rw [hRES]⟩
