def f_X6_beginAct (M : CS) (N : CS) (F : CS) : CS := (bind1 (f_X5_copyFrom F N) (fun z1 => z1))
set_option maxRecDepth 100000 in
set_option maxHeartbeats 8000000 in
theorem c_X6_beginAct (l : Launch) (g : GT) (h : Nat) (ad : Nat → Nat) (M : CS) (adN : Nat → Nat) (N : CS) (adF : Nat → Nat) (F : CS) : CW l yX6_beginAct (.code yX6_beginAct cX6_beginAct 1 none) 3 g [.ref h] (cat [wMa h ad M, wSt g (ad 0) adN N, wSt g (ad 1) adF F]) none (cat [wMa h ad M, wSt g (ad 0) adN N, wSt g (ad 1) adF (f_X6_beginAct M N F)]) := by
  obtain ⟨RES, hRES⟩ : ∃ z, z = (f_X6_beginAct M N F) := ⟨_, rfl⟩
  rw [← hRES]
  unfold f_X6_beginAct at hRES
  refine CWx.of (nL := 1) (ret := none) (own := RX6) (cc := cX6_beginAct) rfl (by decide) rfl (List.forall_mem_cons.mpr ⟨rfl, (fun _ h => absurd h List.not_mem_nil)⟩) (Nat.le_of_ble_eq_true rfl) ?_
  intro k C B hin hkl hkg
  subst hkl; subst hkg
  refine x_loc2 (L' := [some (.ref h)]) rfl ?_
  refine x_aload_n (pc' := 1) C dX6_beginAct_0 rfl rfl rfl ?_
  refine x_get (pc' := 4) (v := .ref (ad 1)) C 0 1 inBX6 rfl rfl (by decide) fl_X6_16 rfl rfl dX6_beginAct_1 rfl ?_
  refine x_aload_n (pc' := 5) C dX6_beginAct_4 rfl rfl rfl ?_
  refine x_get (pc' := 8) (v := .ref (ad 0)) C 0 0 inBX6 rfl rfl (by decide) fl_X6_10 rfl rfl dX6_beginAct_5 rfl ?_
  obtain ⟨z1, ez1⟩ : ∃ z, z = (f_X5_copyFrom F N) := ⟨_, rfl⟩
  replace hRES := bd hRES z1 ez1
  have hc := c_X5_copyFrom (kl k) (kg k) (ad 1) adF F (ad 0) adN N
  rw [← ez1] at hc
  refine x_catWV (st := []) (st2 := []) (pc' := 11) (wcs := [wSt (kg k) (ad 1) adF F, wSt (kg k) (ad 0) adN N]) (wrs := [wMa h ad M]) (wcs' := [wSt (kg k) (ad 1) adF z1, wSt (kg k) (ad 0) adN N]) C B [wMa h ad M, wSt (kg k) (ad 0) adN N, wSt (kg k) (ad 1) adF z1] hc (by simp only [cat, List.append_nil]) (by simp only [cat, List.append_nil]) cw_X6_152 ok_X5_copyFrom rfl (by decide) rfl rfl [0, 2, 1] [0, 2, 1] rfl rfl rfl rfl rfl (Nat.le_of_ble_eq_true rfl) (Nat.zero_le _) (Nat.zero_le _) rfl dX6_beginAct_8 rfl rfl ?_
  exact x_vret C (Nat.zero_le _) (Nat.zero_le _) dX6_beginAct_11 ⟨rfl, by rw [hRES]⟩

def f_X6_isCell (a1 : Int32) : Bool := (if a1 < 0 then false else (if a1 < 8 then true else false))
set_option maxRecDepth 100000 in
set_option maxHeartbeats 8000000 in
theorem c_X6_isCell (l : Launch) (g : GT) (a1 : Int32) : CR l yX6_isCell (.code yX6_isCell cX6_isCell 1 (some .boolean)) 0 g [.int a1] ([]) (some (.int (bI (f_X6_isCell a1)))) := by
  obtain ⟨RES, hRES⟩ : ∃ z, z = (f_X6_isCell a1) := ⟨_, rfl⟩
  rw [← hRES]
  unfold f_X6_isCell at hRES
  refine CRx.of (nL := 1) (ret := (some .boolean)) (own := RX6) (cc := cX6_isCell) rfl (by decide) rfl (List.forall_mem_cons.mpr ⟨rfl, (fun _ h => absurd h List.not_mem_nil)⟩) (Nat.le_of_ble_eq_true rfl) ?_
  intro k C hkl hkg
  subst hkl; subst hkg
  refine x_loc2 (L' := [some (.int a1)]) rfl ?_
  refine x_iload_n (pc' := 1) C dX6_isCell_0 rfl rfl rfl ?_
  refine x_if_lt (tgt := 14) (pc' := 4) C dX6_isCell_1 (by decide) rfl (fun c1 => ?_) (fun c1 => ?_)
  · rw [if_pos c1] at hRES
    refine x_iconst (v := 0) (pc' := 15) C dX6_isCell_14 rfl (by decide) ?_
    exact x_zret (b := false) C (Nat.zero_le _) (Nat.zero_le _) dX6_isCell_15 (by rw [hRES])
  · rw [if_neg c1] at hRES
    refine x_iload_n (pc' := 5) C dX6_isCell_4 rfl rfl rfl ?_
    refine x_bipush (v := 8) (pc' := 7) C dX6_isCell_5 rfl (by decide) ?_
    refine x_icmp_ge (tgt := 14) (pc' := 10) C dX6_isCell_7 (by decide) rfl (fun c2 => ?_) (fun c2 => ?_)
    · rw [if_neg c2] at hRES
      refine x_iconst (v := 0) (pc' := 15) C dX6_isCell_14 rfl (by decide) ?_
      exact x_zret (b := false) C (Nat.zero_le _) (Nat.zero_le _) dX6_isCell_15 (by rw [hRES])
    · rw [if_pos c2] at hRES
      refine x_iconst (v := 1) (pc' := 11) C dX6_isCell_10 rfl (by decide) ?_
      refine x_goto (tgt := 15) C dX6_isCell_11 (by decide) ?_
      exact x_zret (b := true) C (Nat.zero_le _) (Nat.zero_le _) dX6_isCell_15 (by rw [hRES])

def f_X6_tryMake (M : CS) (N : CS) (a1 : Int32) (a2 : Int32) (a3 : Int32) : Int32 × CS := (if (f_X5_has N a1) = true then (if (f_X6_isCell a2) = true then (if a3 < 0 then ((-2), N) else (if 9 < a3 then ((-2), N) else (if (f_X5_lowestFree N) = 24 then ((-3), N) else (bind1 (f_X5_copyCells N a1 (f_X5_lowestFree N) 255) (fun z6 => (bind1 (f_X5_putNumber z6 (f_X5_lowestFree N) a2 a3) (fun z7 => (bind1 (f_X5_hang z7 (f_X5_lowestFree N) a1) (fun z8 => ((f_X5_lowestFree N), z8)))))))))) else ((-1), N)) else ((-1), N))
set_option maxRecDepth 100000 in
set_option maxHeartbeats 8000000 in
theorem c_X6_tryMake (l : Launch) (g : GT) (h : Nat) (ad : Nat → Nat) (M : CS) (adN : Nat → Nat) (N : CS) (a1 : Int32) (a2 : Int32) (a3 : Int32) : CW l yX6_tryMake (.code yX6_tryMake cX6_tryMake 5 (some .int)) 4 g [.ref h, .int a1, .int a2, .int a3] (cat [wMa h ad M, wSt g (ad 0) adN N]) (some (.int (f_X6_tryMake M N a1 a2 a3).1)) (cat [wMa h ad M, wSt g (ad 0) adN (f_X6_tryMake M N a1 a2 a3).2]) := by
  obtain ⟨RES, hRES⟩ : ∃ z, z = (f_X6_tryMake M N a1 a2 a3) := ⟨_, rfl⟩
  rw [← hRES]
  unfold f_X6_tryMake at hRES
  refine CWx.of (nL := 5) (ret := (some .int)) (own := RX6) (cc := cX6_tryMake) rfl (by decide) rfl (List.forall_mem_cons.mpr ⟨rfl, (List.forall_mem_cons.mpr ⟨rfl, (List.forall_mem_cons.mpr ⟨rfl, (List.forall_mem_cons.mpr ⟨rfl, (fun _ h => absurd h List.not_mem_nil)⟩)⟩)⟩)⟩) (Nat.le_of_ble_eq_true rfl) ?_
  intro k C B hin hkl hkg
  subst hkl; subst hkg
  refine x_loc2 (L' := [some (.ref h), some (.int a1), some (.int a2), some (.int a3), none]) rfl ?_
  refine x_aload_n (pc' := 1) C dX6_tryMake_0 rfl rfl rfl ?_
  refine x_get (pc' := 4) (v := .ref (ad 0)) C 0 0 inBX6 rfl rfl (by decide) fl_X6_10 rfl rfl dX6_tryMake_1 rfl ?_
  refine x_iload_n (pc' := 5) C dX6_tryMake_4 rfl rfl rfl ?_
  refine x_catRV (st := []) (st2 := [.int (bI (f_X5_has N a1))]) (pc' := 8) (wcs := [wSt (kg k) (ad 0) adN N]) C (c_X5_has (kl k) (kg k) (ad 0) adN N a1) (by simp only [cat, List.append_nil]) cw_X6_57 ok_X5_has rfl (by decide) rfl rfl [1] rfl rfl rfl (Nat.le_of_ble_eq_true rfl) (Nat.zero_le _) (Nat.zero_le _) rfl dX6_tryMake_5 rfl rfl ?_
  refine x_ifB_eq (tgt := 18) (pc' := 11) C dX6_tryMake_8 (by decide) rfl (fun c1 => ?_) (fun c1 => ?_)
  · rw [if_neg c1] at hRES
    refine x_iconst (v := (-1)) (pc' := 19) C dX6_tryMake_18 rfl (by decide) ?_
    exact x_iret C (Nat.zero_le _) (Nat.zero_le _) dX6_tryMake_19 ⟨by rw [hRES], by rw [hRES]⟩
  · rw [if_pos c1] at hRES
    refine x_iload_n (pc' := 12) C dX6_tryMake_11 rfl rfl rfl ?_
    refine x_RS (st := []) (st2 := [.int (bI (f_X6_isCell a2))]) (pc' := 15) C (c_X6_isCell (kl k) (kg k) a2) cw_X6_159 ok_X6_isCell (by decide) [] rfl rfl rfl (Nat.le_of_ble_eq_true rfl) (Nat.zero_le _) (Nat.zero_le _) rfl dX6_tryMake_12 rfl rfl ?_
    refine x_ifB_ne (tgt := 20) (pc' := 18) C dX6_tryMake_15 (by decide) rfl (fun c2 => ?_) (fun c2 => ?_)
    · rw [if_pos c2] at hRES
      refine x_iload_n (pc' := 21) C dX6_tryMake_20 rfl rfl rfl ?_
      refine x_if_lt (tgt := 30) (pc' := 24) C dX6_tryMake_21 (by decide) rfl (fun c3 => ?_) (fun c3 => ?_)
      · rw [if_pos c3] at hRES
        refine x_bipush (v := (-2)) (pc' := 32) C dX6_tryMake_30 rfl (by decide) ?_
        exact x_iret C (Nat.zero_le _) (Nat.zero_le _) dX6_tryMake_32 ⟨by rw [hRES], by rw [hRES]⟩
      · rw [if_neg c3] at hRES
        refine x_iload_n (pc' := 25) C dX6_tryMake_24 rfl rfl rfl ?_
        refine x_bipush (v := 9) (pc' := 27) C dX6_tryMake_25 rfl (by decide) ?_
        refine x_icmp_le (tgt := 33) (pc' := 30) C dX6_tryMake_27 (by decide) rfl (fun c4 => ?_) (fun c4 => ?_)
        · rw [if_neg c4] at hRES
          refine x_aload_n (pc' := 34) C dX6_tryMake_33 rfl rfl rfl ?_
          refine x_get (pc' := 37) (v := .ref (ad 0)) C 0 0 inBX6 rfl rfl (by decide) fl_X6_10 rfl rfl dX6_tryMake_34 rfl ?_
          refine x_catRV (st := []) (st2 := [.int (f_X5_lowestFree N)]) (pc' := 40) (wcs := [wSt (kg k) (ad 0) adN N]) C (c_X5_lowestFree (kl k) (kg k) (ad 0) adN N) (by simp only [cat, List.append_nil]) cw_X6_244 ok_X5_lowestFree rfl (by decide) rfl rfl [1] rfl rfl rfl (Nat.le_of_ble_eq_true rfl) (Nat.zero_le _) (Nat.zero_le _) rfl dX6_tryMake_37 rfl rfl ?_
          refine x_istore (pc' := 42) (L' := [some (.ref h), some (.int a1), some (.int a2), some (.int a3), some (.int (f_X5_lowestFree N))]) C dX6_tryMake_40 rfl (Nat.le_of_ble_eq_true rfl) rfl ?_
          refine x_iload (pc' := 44) C dX6_tryMake_42 rfl rfl ?_
          refine x_bipush (v := 24) (pc' := 46) C dX6_tryMake_44 rfl (by decide) ?_
          refine x_icmp_ne (tgt := 52) (pc' := 49) C dX6_tryMake_46 (by decide) rfl (fun c5 => ?_) (fun c5 => ?_)
          · rw [if_neg c5] at hRES
            refine x_aload_n (pc' := 53) C dX6_tryMake_52 rfl rfl rfl ?_
            refine x_get (pc' := 56) (v := .ref (ad 0)) C 0 0 inBX6 rfl rfl (by decide) fl_X6_10 rfl rfl dX6_tryMake_53 rfl ?_
            refine x_iload_n (pc' := 57) C dX6_tryMake_56 rfl rfl rfl ?_
            refine x_iload (pc' := 59) C dX6_tryMake_57 rfl rfl ?_
            refine x_sipush (v := 255) (pc' := 62) C dX6_tryMake_59 rfl (by decide) ?_
            obtain ⟨z6, ez6⟩ : ∃ z, z = (f_X5_copyCells N a1 (f_X5_lowestFree N) 255) := ⟨_, rfl⟩
            replace hRES := bd hRES z6 ez6
            have hc := c_X5_copyCells (kl k) (kg k) (ad 0) adN N a1 (f_X5_lowestFree N) 255
            rw [← ez6] at hc
            refine x_catWV (st := []) (st2 := []) (pc' := 65) (wcs := [wSt (kg k) (ad 0) adN N]) (wrs := [wMa h ad M]) (wcs' := [wSt (kg k) (ad 0) adN z6]) C B [wMa h ad M, wSt (kg k) (ad 0) adN z6] hc (by simp only [cat, List.append_nil]) (by simp only [cat, List.append_nil]) cw_X6_247 ok_X5_copyCells rfl (by decide) rfl rfl [0, 1] [0, 1] rfl rfl rfl rfl rfl (Nat.le_of_ble_eq_true rfl) (Nat.zero_le _) (Nat.zero_le _) rfl dX6_tryMake_62 rfl rfl ?_
            refine x_aload_n (pc' := 66) C dX6_tryMake_65 rfl rfl rfl ?_
            refine x_get (pc' := 69) (v := .ref (ad 0)) C 0 0 inBX6 rfl rfl (by decide) fl_X6_10 rfl rfl dX6_tryMake_66 rfl ?_
            refine x_iload (pc' := 71) C dX6_tryMake_69 rfl rfl ?_
            refine x_iload_n (pc' := 72) C dX6_tryMake_71 rfl rfl rfl ?_
            refine x_iload_n (pc' := 73) C dX6_tryMake_72 rfl rfl rfl ?_
            obtain ⟨z7, ez7⟩ : ∃ z, z = (f_X5_putNumber z6 (f_X5_lowestFree N) a2 a3) := ⟨_, rfl⟩
            replace hRES := bd hRES z7 ez7
            have hc := c_X5_putNumber (kl k) (kg k) (ad 0) adN z6 (f_X5_lowestFree N) a2 a3
            rw [← ez7] at hc
            refine x_catWV (st := []) (st2 := []) (pc' := 76) (wcs := [wSt (kg k) (ad 0) adN z6]) (wrs := [wMa h ad M]) (wcs' := [wSt (kg k) (ad 0) adN z7]) C B [wMa h ad M, wSt (kg k) (ad 0) adN z7] hc (by simp only [cat, List.append_nil]) (by simp only [cat, List.append_nil]) cw_X6_251 ok_X5_putNumber rfl (by decide) rfl rfl [0, 1] [0, 1] rfl rfl rfl rfl rfl (Nat.le_of_ble_eq_true rfl) (Nat.zero_le _) (Nat.zero_le _) rfl dX6_tryMake_73 rfl rfl ?_
            refine x_aload_n (pc' := 77) C dX6_tryMake_76 rfl rfl rfl ?_
            refine x_get (pc' := 80) (v := .ref (ad 0)) C 0 0 inBX6 rfl rfl (by decide) fl_X6_10 rfl rfl dX6_tryMake_77 rfl ?_
            refine x_iload (pc' := 82) C dX6_tryMake_80 rfl rfl ?_
            refine x_iload_n (pc' := 83) C dX6_tryMake_82 rfl rfl rfl ?_
            obtain ⟨z8, ez8⟩ : ∃ z, z = (f_X5_hang z7 (f_X5_lowestFree N) a1) := ⟨_, rfl⟩
            replace hRES := bd hRES z8 ez8
            have hc := c_X5_hang (kl k) (kg k) (ad 0) adN z7 (f_X5_lowestFree N) a1
            rw [← ez8] at hc
            refine x_catWV (st := []) (st2 := []) (pc' := 86) (wcs := [wSt (kg k) (ad 0) adN z7]) (wrs := [wMa h ad M]) (wcs' := [wSt (kg k) (ad 0) adN z8]) C B [wMa h ad M, wSt (kg k) (ad 0) adN z8] hc (by simp only [cat, List.append_nil]) (by simp only [cat, List.append_nil]) cw_X6_254 ok_X5_hang rfl (by decide) rfl rfl [0, 1] [0, 1] rfl rfl rfl rfl rfl (Nat.le_of_ble_eq_true rfl) (Nat.zero_le _) (Nat.zero_le _) rfl dX6_tryMake_83 rfl rfl ?_
            refine x_iload (pc' := 88) C dX6_tryMake_86 rfl rfl ?_
            exact x_iret C (Nat.zero_le _) (Nat.zero_le _) dX6_tryMake_88 ⟨by rw [hRES], by rw [hRES]⟩
          · rw [if_pos c5] at hRES
            refine x_bipush (v := (-3)) (pc' := 51) C dX6_tryMake_49 rfl (by decide) ?_
            exact x_iret C (Nat.zero_le _) (Nat.zero_le _) dX6_tryMake_51 ⟨by rw [hRES], by rw [hRES]⟩
        · rw [if_pos c4] at hRES
          refine x_bipush (v := (-2)) (pc' := 32) C dX6_tryMake_30 rfl (by decide) ?_
          exact x_iret C (Nat.zero_le _) (Nat.zero_le _) dX6_tryMake_32 ⟨by rw [hRES], by rw [hRES]⟩
    · rw [if_neg c2] at hRES
      refine x_iconst (v := (-1)) (pc' := 19) C dX6_tryMake_18 rfl (by decide) ?_
      exact x_iret C (Nat.zero_le _) (Nat.zero_le _) dX6_tryMake_19 ⟨by rw [hRES], by rw [hRES]⟩

def f_X6_endAct (M : CS) (F : CS) (Q : HS) (a1 : Int32) : Int32 × HS := (if a1 < 0 then (a1, Q) else (bind1 (f_X0_record Q F) (fun z3 => (a1, z3))))
def o_X6_endAct (M : CS) (F : CS) (Q : HS) (a1 : Int32) : Prop := ((a1 < 0 → True) ∧ (¬ (a1 < 0) → ((o_X0_record Q F) ∧ (bind1 (f_X0_record Q F) (fun z3 => True)))))
set_option maxRecDepth 100000 in
set_option maxHeartbeats 8000000 in
theorem c_X6_endAct (l : Launch) (g : GT) (h : Nat) (ad : Nat → Nat) (M : CS) (adF : Nat → Nat) (F : CS) (adQ : Nat → Nat) (Q : HS) (a1 : Int32) (hok : o_X6_endAct M F Q a1) : CW l yX6_endAct (.code yX6_endAct cX6_endAct 2 (some .int)) 4 g [.ref h, .int a1] (cat [wMa h ad M, wSt g (ad 1) adF F, wHi g (ad 4) adQ Q]) (some (.int (f_X6_endAct M F Q a1).1)) (cat [wMa h ad M, wSt g (ad 1) adF F, wHi g (ad 4) adQ (f_X6_endAct M F Q a1).2]) := by
  obtain ⟨RES, hRES⟩ : ∃ z, z = (f_X6_endAct M F Q a1) := ⟨_, rfl⟩
  rw [← hRES]
  unfold f_X6_endAct at hRES
  unfold o_X6_endAct at hok
  refine CWx.of (nL := 2) (ret := (some .int)) (own := RX6) (cc := cX6_endAct) rfl (by decide) rfl (List.forall_mem_cons.mpr ⟨rfl, (List.forall_mem_cons.mpr ⟨rfl, (fun _ h => absurd h List.not_mem_nil)⟩)⟩) (Nat.le_of_ble_eq_true rfl) ?_
  intro k C B hin hkl hkg
  subst hkl; subst hkg
  refine x_loc2 (L' := [some (.ref h), some (.int a1)]) rfl ?_
  refine x_iload_n (pc' := 1) C dX6_endAct_0 rfl rfl rfl ?_
  refine x_if_lt (tgt := 15) (pc' := 4) C dX6_endAct_1 (by decide) rfl (fun c1 => ?_) (fun c1 => ?_)
  · rw [if_pos c1] at hRES
    replace hok := hok.1 c1
    refine x_iload_n (pc' := 16) C dX6_endAct_15 rfl rfl rfl ?_
    exact x_iret C (Nat.zero_le _) (Nat.zero_le _) dX6_endAct_16 ⟨by rw [hRES], by rw [hRES]⟩
  · rw [if_neg c1] at hRES
    replace hok := hok.2 c1
    refine x_aload_n (pc' := 5) C dX6_endAct_4 rfl rfl rfl ?_
    refine x_get (pc' := 8) (v := .ref (ad 4)) C 0 4 inBX6 rfl rfl (by decide) fl_X6_25 rfl rfl dX6_endAct_5 rfl ?_
    refine x_aload_n (pc' := 9) C dX6_endAct_8 rfl rfl rfl ?_
    refine x_get (pc' := 12) (v := .ref (ad 1)) C 0 1 inBX6 rfl rfl (by decide) fl_X6_16 rfl rfl dX6_endAct_9 rfl ?_
    obtain ⟨hn2, hok⟩ := hok
    obtain ⟨z3, ez3⟩ : ∃ z, z = (f_X0_record Q F) := ⟨_, rfl⟩
    replace hRES := bd hRES z3 ez3
    replace hok := bdP hok z3 ez3
    have hc := c_X0_record (kl k) (kg k) (ad 4) adQ Q (ad 1) adF F hn2
    rw [← ez3] at hc
    refine x_catWV (st := []) (st2 := []) (pc' := 15) (wcs := [wHi (kg k) (ad 4) adQ Q, wSt (kg k) (ad 1) adF F]) (wrs := [wMa h ad M]) (wcs' := [wHi (kg k) (ad 4) adQ z3, wSt (kg k) (ad 1) adF F]) C B [wMa h ad M, wSt (kg k) (ad 1) adF F, wHi (kg k) (ad 4) adQ z3] hc (by simp only [cat, List.append_nil]) (by simp only [cat, List.append_nil]) cw_X6_241 ok_X0_record rfl (by decide) rfl rfl [0, 2, 1] [0, 2, 1] rfl rfl rfl rfl rfl (Nat.le_of_ble_eq_true rfl) (Nat.zero_le _) (Nat.zero_le _) rfl dX6_endAct_12 rfl rfl ?_
    refine x_iload_n (pc' := 16) C dX6_endAct_15 rfl rfl rfl ?_
    exact x_iret C (Nat.zero_le _) (Nat.zero_le _) dX6_endAct_16 ⟨by rw [hRES], by rw [hRES]⟩

def f_X6_make (M : CS) (N : CS) (F : CS) (Q : HS) (a1 : Int32) (a2 : Int32) (a3 : Int32) : Int32 × CS × CS × HS := (bind1 (f_X6_beginAct M N F) (fun z1 => (bind1 (f_X6_tryMake M N a1 a2 a3) (fun z2 => (bind1 (f_X6_endAct M z1 Q z2.1) (fun z4 => (z4.1, z2.2, z1, z4.2)))))))
def o_X6_make (M : CS) (N : CS) (F : CS) (Q : HS) (a1 : Int32) (a2 : Int32) (a3 : Int32) : Prop := (bind1 (f_X6_beginAct M N F) (fun z1 => (bind1 (f_X6_tryMake M N a1 a2 a3) (fun z2 => ((o_X6_endAct M z1 Q z2.1) ∧ (bind1 (f_X6_endAct M z1 Q z2.1) (fun z4 => True)))))))
set_option maxRecDepth 100000 in
set_option maxHeartbeats 8000000 in
theorem c_X6_make (l : Launch) (g : GT) (h : Nat) (ad : Nat → Nat) (M : CS) (adN : Nat → Nat) (N : CS) (adF : Nat → Nat) (F : CS) (adQ : Nat → Nat) (Q : HS) (a1 : Int32) (a2 : Int32) (a3 : Int32) (hok : o_X6_make M N F Q a1 a2 a3) : CW l yX6_make (.code yX6_make cX6_make 4 (some .int)) 5 g [.ref h, .int a1, .int a2, .int a3] (cat [wMa h ad M, wSt g (ad 0) adN N, wSt g (ad 1) adF F, wHi g (ad 4) adQ Q]) (some (.int (f_X6_make M N F Q a1 a2 a3).1)) (cat [wMa h ad M, wSt g (ad 0) adN (f_X6_make M N F Q a1 a2 a3).2.1, wSt g (ad 1) adF (f_X6_make M N F Q a1 a2 a3).2.2.1, wHi g (ad 4) adQ (f_X6_make M N F Q a1 a2 a3).2.2.2]) := by
  obtain ⟨RES, hRES⟩ : ∃ z, z = (f_X6_make M N F Q a1 a2 a3) := ⟨_, rfl⟩
  rw [← hRES]
  unfold f_X6_make at hRES
  unfold o_X6_make at hok
  refine CWx.of (nL := 4) (ret := (some .int)) (own := RX6) (cc := cX6_make) rfl (by decide) rfl (List.forall_mem_cons.mpr ⟨rfl, (List.forall_mem_cons.mpr ⟨rfl, (List.forall_mem_cons.mpr ⟨rfl, (List.forall_mem_cons.mpr ⟨rfl, (fun _ h => absurd h List.not_mem_nil)⟩)⟩)⟩)⟩) (Nat.le_of_ble_eq_true rfl) ?_
  intro k C B hin hkl hkg
  subst hkl; subst hkg
  refine x_loc2 (L' := [some (.ref h), some (.int a1), some (.int a2), some (.int a3)]) rfl ?_
  refine x_aload_n (pc' := 1) C dX6_make_0 rfl rfl rfl ?_
  obtain ⟨z1, ez1⟩ : ∃ z, z = (f_X6_beginAct M N F) := ⟨_, rfl⟩
  replace hRES := bd hRES z1 ez1
  replace hok := bdP hok z1 ez1
  have hc := c_X6_beginAct (kl k) (kg k) h ad M adN N adF F
  rw [← ez1] at hc
  refine x_catWV (st := []) (st2 := []) (pc' := 4) (wcs := [wMa h ad M, wSt (kg k) (ad 0) adN N, wSt (kg k) (ad 1) adF F]) (wrs := [wHi (kg k) (ad 4) adQ Q]) (wcs' := [wMa h ad M, wSt (kg k) (ad 0) adN N, wSt (kg k) (ad 1) adF z1]) C B [wMa h ad M, wSt (kg k) (ad 0) adN N, wSt (kg k) (ad 1) adF z1, wHi (kg k) (ad 4) adQ Q] hc rfl rfl cw_X6_43 ok_X6_beginAct rfl (by decide) rfl rfl [3, 0, 1, 2] [1, 2, 3, 0] rfl rfl rfl rfl rfl (Nat.le_of_ble_eq_true rfl) (Nat.zero_le _) (Nat.zero_le _) rfl dX6_make_1 rfl rfl ?_
  refine x_aload_n (pc' := 5) C dX6_make_4 rfl rfl rfl ?_
  refine x_aload_n (pc' := 6) C dX6_make_5 rfl rfl rfl ?_
  refine x_iload_n (pc' := 7) C dX6_make_6 rfl rfl rfl ?_
  refine x_iload_n (pc' := 8) C dX6_make_7 rfl rfl rfl ?_
  refine x_iload_n (pc' := 9) C dX6_make_8 rfl rfl rfl ?_
  obtain ⟨z2, ez2⟩ : ∃ z, z = (f_X6_tryMake M N a1 a2 a3) := ⟨_, rfl⟩
  replace hRES := bd hRES z2 ez2
  replace hok := bdP hok z2 ez2
  have hc := c_X6_tryMake (kl k) (kg k) h ad M adN N a1 a2 a3
  rw [← ez2] at hc
  refine x_catWV (st := [.ref h]) (st2 := [.int z2.1, .ref h]) (pc' := 12) (wcs := [wMa h ad M, wSt (kg k) (ad 0) adN N]) (wrs := [wSt (kg k) (ad 1) adF z1, wHi (kg k) (ad 4) adQ Q]) (wcs' := [wMa h ad M, wSt (kg k) (ad 0) adN z2.2]) C B [wMa h ad M, wSt (kg k) (ad 0) adN z2.2, wSt (kg k) (ad 1) adF z1, wHi (kg k) (ad 4) adQ Q] hc rfl rfl cw_X6_46 ok_X6_tryMake rfl (by decide) rfl rfl [2, 3, 0, 1] [2, 3, 0, 1] rfl rfl rfl rfl rfl (Nat.le_of_ble_eq_true rfl) (Nat.zero_le _) (Nat.zero_le _) rfl dX6_make_9 rfl rfl ?_
  obtain ⟨hn3, hok⟩ := hok
  obtain ⟨z4, ez4⟩ : ∃ z, z = (f_X6_endAct M z1 Q z2.1) := ⟨_, rfl⟩
  replace hRES := bd hRES z4 ez4
  replace hok := bdP hok z4 ez4
  have hc := c_X6_endAct (kl k) (kg k) h ad M adF z1 adQ Q z2.1 hn3
  rw [← ez4] at hc
  refine x_catWV (st := []) (st2 := [.int z4.1]) (pc' := 15) (wcs := [wMa h ad M, wSt (kg k) (ad 1) adF z1, wHi (kg k) (ad 4) adQ Q]) (wrs := [wSt (kg k) (ad 0) adN z2.2]) (wcs' := [wMa h ad M, wSt (kg k) (ad 1) adF z1, wHi (kg k) (ad 4) adQ z4.2]) C B [wMa h ad M, wSt (kg k) (ad 0) adN z2.2, wSt (kg k) (ad 1) adF z1, wHi (kg k) (ad 4) adQ z4.2] hc rfl rfl cw_X6_50 ok_X6_endAct rfl (by decide) rfl rfl [1, 0, 2, 3] [1, 0, 2, 3] rfl rfl rfl rfl rfl (Nat.le_of_ble_eq_true rfl) (Nat.zero_le _) (Nat.zero_le _) rfl dX6_make_12 rfl rfl ?_
  exact x_iret C (Nat.zero_le _) (Nat.zero_le _) dX6_make_15 ⟨by rw [hRES], by rw [hRES]⟩

def f_X6_tryMix (M : CS) (N : CS) (a1 : Int32) (a2 : Int32) (a3 : Int32) : Int32 × CS := (if (f_X5_has N a1) = true then (if (f_X5_has N a2) = true then (if a3 < 1 then ((-2), N) else (if 255 < a3 then ((-2), N) else (if (f_X5_lowestFree N) = 24 then ((-3), N) else (bind1 (f_X5_copyCells N a1 (f_X5_lowestFree N) 255) (fun z6 => (bind1 (f_X5_copyCells z6 a2 (f_X5_lowestFree N) a3) (fun z7 => (bind1 (f_X5_hang z7 (f_X5_lowestFree N) a1) (fun z8 => ((f_X5_lowestFree N), z8)))))))))) else ((-1), N)) else ((-1), N))
set_option maxRecDepth 100000 in
set_option maxHeartbeats 8000000 in
theorem c_X6_tryMix (l : Launch) (g : GT) (h : Nat) (ad : Nat → Nat) (M : CS) (adN : Nat → Nat) (N : CS) (a1 : Int32) (a2 : Int32) (a3 : Int32) : CW l yX6_tryMix (.code yX6_tryMix cX6_tryMix 5 (some .int)) 4 g [.ref h, .int a1, .int a2, .int a3] (cat [wMa h ad M, wSt g (ad 0) adN N]) (some (.int (f_X6_tryMix M N a1 a2 a3).1)) (cat [wMa h ad M, wSt g (ad 0) adN (f_X6_tryMix M N a1 a2 a3).2]) := by
  obtain ⟨RES, hRES⟩ : ∃ z, z = (f_X6_tryMix M N a1 a2 a3) := ⟨_, rfl⟩
  rw [← hRES]
  unfold f_X6_tryMix at hRES
  refine CWx.of (nL := 5) (ret := (some .int)) (own := RX6) (cc := cX6_tryMix) rfl (by decide) rfl (List.forall_mem_cons.mpr ⟨rfl, (List.forall_mem_cons.mpr ⟨rfl, (List.forall_mem_cons.mpr ⟨rfl, (List.forall_mem_cons.mpr ⟨rfl, (fun _ h => absurd h List.not_mem_nil)⟩)⟩)⟩)⟩) (Nat.le_of_ble_eq_true rfl) ?_
  intro k C B hin hkl hkg
  subst hkl; subst hkg
  refine x_loc2 (L' := [some (.ref h), some (.int a1), some (.int a2), some (.int a3), none]) rfl ?_
  refine x_aload_n (pc' := 1) C dX6_tryMix_0 rfl rfl rfl ?_
  refine x_get (pc' := 4) (v := .ref (ad 0)) C 0 0 inBX6 rfl rfl (by decide) fl_X6_10 rfl rfl dX6_tryMix_1 rfl ?_
  refine x_iload_n (pc' := 5) C dX6_tryMix_4 rfl rfl rfl ?_
  refine x_catRV (st := []) (st2 := [.int (bI (f_X5_has N a1))]) (pc' := 8) (wcs := [wSt (kg k) (ad 0) adN N]) C (c_X5_has (kl k) (kg k) (ad 0) adN N a1) (by simp only [cat, List.append_nil]) cw_X6_57 ok_X5_has rfl (by decide) rfl rfl [1] rfl rfl rfl (Nat.le_of_ble_eq_true rfl) (Nat.zero_le _) (Nat.zero_le _) rfl dX6_tryMix_5 rfl rfl ?_
  refine x_ifB_eq (tgt := 22) (pc' := 11) C dX6_tryMix_8 (by decide) rfl (fun c1 => ?_) (fun c1 => ?_)
  · rw [if_neg c1] at hRES
    refine x_iconst (v := (-1)) (pc' := 23) C dX6_tryMix_22 rfl (by decide) ?_
    exact x_iret C (Nat.zero_le _) (Nat.zero_le _) dX6_tryMix_23 ⟨by rw [hRES], by rw [hRES]⟩
  · rw [if_pos c1] at hRES
    refine x_aload_n (pc' := 12) C dX6_tryMix_11 rfl rfl rfl ?_
    refine x_get (pc' := 15) (v := .ref (ad 0)) C 0 0 inBX6 rfl rfl (by decide) fl_X6_10 rfl rfl dX6_tryMix_12 rfl ?_
    refine x_iload_n (pc' := 16) C dX6_tryMix_15 rfl rfl rfl ?_
    refine x_catRV (st := []) (st2 := [.int (bI (f_X5_has N a2))]) (pc' := 19) (wcs := [wSt (kg k) (ad 0) adN N]) C (c_X5_has (kl k) (kg k) (ad 0) adN N a2) (by simp only [cat, List.append_nil]) cw_X6_57 ok_X5_has rfl (by decide) rfl rfl [1] rfl rfl rfl (Nat.le_of_ble_eq_true rfl) (Nat.zero_le _) (Nat.zero_le _) rfl dX6_tryMix_16 rfl rfl ?_
    refine x_ifB_ne (tgt := 24) (pc' := 22) C dX6_tryMix_19 (by decide) rfl (fun c2 => ?_) (fun c2 => ?_)
    · rw [if_pos c2] at hRES
      refine x_iload_n (pc' := 25) C dX6_tryMix_24 rfl rfl rfl ?_
      refine x_iconst (v := 1) (pc' := 26) C dX6_tryMix_25 rfl (by decide) ?_
      refine x_icmp_lt (tgt := 36) (pc' := 29) C dX6_tryMix_26 (by decide) rfl (fun c3 => ?_) (fun c3 => ?_)
      · rw [if_pos c3] at hRES
        refine x_bipush (v := (-2)) (pc' := 38) C dX6_tryMix_36 rfl (by decide) ?_
        exact x_iret C (Nat.zero_le _) (Nat.zero_le _) dX6_tryMix_38 ⟨by rw [hRES], by rw [hRES]⟩
      · rw [if_neg c3] at hRES
        refine x_iload_n (pc' := 30) C dX6_tryMix_29 rfl rfl rfl ?_
        refine x_sipush (v := 255) (pc' := 33) C dX6_tryMix_30 rfl (by decide) ?_
        refine x_icmp_le (tgt := 39) (pc' := 36) C dX6_tryMix_33 (by decide) rfl (fun c4 => ?_) (fun c4 => ?_)
        · rw [if_neg c4] at hRES
          refine x_aload_n (pc' := 40) C dX6_tryMix_39 rfl rfl rfl ?_
          refine x_get (pc' := 43) (v := .ref (ad 0)) C 0 0 inBX6 rfl rfl (by decide) fl_X6_10 rfl rfl dX6_tryMix_40 rfl ?_
          refine x_catRV (st := []) (st2 := [.int (f_X5_lowestFree N)]) (pc' := 46) (wcs := [wSt (kg k) (ad 0) adN N]) C (c_X5_lowestFree (kl k) (kg k) (ad 0) adN N) (by simp only [cat, List.append_nil]) cw_X6_244 ok_X5_lowestFree rfl (by decide) rfl rfl [1] rfl rfl rfl (Nat.le_of_ble_eq_true rfl) (Nat.zero_le _) (Nat.zero_le _) rfl dX6_tryMix_43 rfl rfl ?_
          refine x_istore (pc' := 48) (L' := [some (.ref h), some (.int a1), some (.int a2), some (.int a3), some (.int (f_X5_lowestFree N))]) C dX6_tryMix_46 rfl (Nat.le_of_ble_eq_true rfl) rfl ?_
          refine x_iload (pc' := 50) C dX6_tryMix_48 rfl rfl ?_
          refine x_bipush (v := 24) (pc' := 52) C dX6_tryMix_50 rfl (by decide) ?_
          refine x_icmp_ne (tgt := 58) (pc' := 55) C dX6_tryMix_52 (by decide) rfl (fun c5 => ?_) (fun c5 => ?_)
          · rw [if_neg c5] at hRES
            refine x_aload_n (pc' := 59) C dX6_tryMix_58 rfl rfl rfl ?_
            refine x_get (pc' := 62) (v := .ref (ad 0)) C 0 0 inBX6 rfl rfl (by decide) fl_X6_10 rfl rfl dX6_tryMix_59 rfl ?_
            refine x_iload_n (pc' := 63) C dX6_tryMix_62 rfl rfl rfl ?_
            refine x_iload (pc' := 65) C dX6_tryMix_63 rfl rfl ?_
            refine x_sipush (v := 255) (pc' := 68) C dX6_tryMix_65 rfl (by decide) ?_
            obtain ⟨z6, ez6⟩ : ∃ z, z = (f_X5_copyCells N a1 (f_X5_lowestFree N) 255) := ⟨_, rfl⟩
            replace hRES := bd hRES z6 ez6
            have hc := c_X5_copyCells (kl k) (kg k) (ad 0) adN N a1 (f_X5_lowestFree N) 255
            rw [← ez6] at hc
            refine x_catWV (st := []) (st2 := []) (pc' := 71) (wcs := [wSt (kg k) (ad 0) adN N]) (wrs := [wMa h ad M]) (wcs' := [wSt (kg k) (ad 0) adN z6]) C B [wMa h ad M, wSt (kg k) (ad 0) adN z6] hc (by simp only [cat, List.append_nil]) (by simp only [cat, List.append_nil]) cw_X6_247 ok_X5_copyCells rfl (by decide) rfl rfl [0, 1] [0, 1] rfl rfl rfl rfl rfl (Nat.le_of_ble_eq_true rfl) (Nat.zero_le _) (Nat.zero_le _) rfl dX6_tryMix_68 rfl rfl ?_
            refine x_aload_n (pc' := 72) C dX6_tryMix_71 rfl rfl rfl ?_
            refine x_get (pc' := 75) (v := .ref (ad 0)) C 0 0 inBX6 rfl rfl (by decide) fl_X6_10 rfl rfl dX6_tryMix_72 rfl ?_
            refine x_iload_n (pc' := 76) C dX6_tryMix_75 rfl rfl rfl ?_
            refine x_iload (pc' := 78) C dX6_tryMix_76 rfl rfl ?_
            refine x_iload_n (pc' := 79) C dX6_tryMix_78 rfl rfl rfl ?_
            obtain ⟨z7, ez7⟩ : ∃ z, z = (f_X5_copyCells z6 a2 (f_X5_lowestFree N) a3) := ⟨_, rfl⟩
            replace hRES := bd hRES z7 ez7
            have hc := c_X5_copyCells (kl k) (kg k) (ad 0) adN z6 a2 (f_X5_lowestFree N) a3
            rw [← ez7] at hc
            refine x_catWV (st := []) (st2 := []) (pc' := 82) (wcs := [wSt (kg k) (ad 0) adN z6]) (wrs := [wMa h ad M]) (wcs' := [wSt (kg k) (ad 0) adN z7]) C B [wMa h ad M, wSt (kg k) (ad 0) adN z7] hc (by simp only [cat, List.append_nil]) (by simp only [cat, List.append_nil]) cw_X6_247 ok_X5_copyCells rfl (by decide) rfl rfl [0, 1] [0, 1] rfl rfl rfl rfl rfl (Nat.le_of_ble_eq_true rfl) (Nat.zero_le _) (Nat.zero_le _) rfl dX6_tryMix_79 rfl rfl ?_
            refine x_aload_n (pc' := 83) C dX6_tryMix_82 rfl rfl rfl ?_
            refine x_get (pc' := 86) (v := .ref (ad 0)) C 0 0 inBX6 rfl rfl (by decide) fl_X6_10 rfl rfl dX6_tryMix_83 rfl ?_
            refine x_iload (pc' := 88) C dX6_tryMix_86 rfl rfl ?_
            refine x_iload_n (pc' := 89) C dX6_tryMix_88 rfl rfl rfl ?_
            obtain ⟨z8, ez8⟩ : ∃ z, z = (f_X5_hang z7 (f_X5_lowestFree N) a1) := ⟨_, rfl⟩
            replace hRES := bd hRES z8 ez8
            have hc := c_X5_hang (kl k) (kg k) (ad 0) adN z7 (f_X5_lowestFree N) a1
            rw [← ez8] at hc
            refine x_catWV (st := []) (st2 := []) (pc' := 92) (wcs := [wSt (kg k) (ad 0) adN z7]) (wrs := [wMa h ad M]) (wcs' := [wSt (kg k) (ad 0) adN z8]) C B [wMa h ad M, wSt (kg k) (ad 0) adN z8] hc (by simp only [cat, List.append_nil]) (by simp only [cat, List.append_nil]) cw_X6_254 ok_X5_hang rfl (by decide) rfl rfl [0, 1] [0, 1] rfl rfl rfl rfl rfl (Nat.le_of_ble_eq_true rfl) (Nat.zero_le _) (Nat.zero_le _) rfl dX6_tryMix_89 rfl rfl ?_
            refine x_iload (pc' := 94) C dX6_tryMix_92 rfl rfl ?_
            exact x_iret C (Nat.zero_le _) (Nat.zero_le _) dX6_tryMix_94 ⟨by rw [hRES], by rw [hRES]⟩
          · rw [if_pos c5] at hRES
            refine x_bipush (v := (-3)) (pc' := 57) C dX6_tryMix_55 rfl (by decide) ?_
            exact x_iret C (Nat.zero_le _) (Nat.zero_le _) dX6_tryMix_57 ⟨by rw [hRES], by rw [hRES]⟩
        · rw [if_pos c4] at hRES
          refine x_bipush (v := (-2)) (pc' := 38) C dX6_tryMix_36 rfl (by decide) ?_
          exact x_iret C (Nat.zero_le _) (Nat.zero_le _) dX6_tryMix_38 ⟨by rw [hRES], by rw [hRES]⟩
    · rw [if_neg c2] at hRES
      refine x_iconst (v := (-1)) (pc' := 23) C dX6_tryMix_22 rfl (by decide) ?_
      exact x_iret C (Nat.zero_le _) (Nat.zero_le _) dX6_tryMix_23 ⟨by rw [hRES], by rw [hRES]⟩

def f_X6_mix (M : CS) (N : CS) (F : CS) (Q : HS) (a1 : Int32) (a2 : Int32) (a3 : Int32) : Int32 × CS × CS × HS := (bind1 (f_X6_beginAct M N F) (fun z1 => (bind1 (f_X6_tryMix M N a1 a2 a3) (fun z2 => (bind1 (f_X6_endAct M z1 Q z2.1) (fun z4 => (z4.1, z2.2, z1, z4.2)))))))
def o_X6_mix (M : CS) (N : CS) (F : CS) (Q : HS) (a1 : Int32) (a2 : Int32) (a3 : Int32) : Prop := (bind1 (f_X6_beginAct M N F) (fun z1 => (bind1 (f_X6_tryMix M N a1 a2 a3) (fun z2 => ((o_X6_endAct M z1 Q z2.1) ∧ (bind1 (f_X6_endAct M z1 Q z2.1) (fun z4 => True)))))))
set_option maxRecDepth 100000 in
set_option maxHeartbeats 8000000 in
theorem c_X6_mix (l : Launch) (g : GT) (h : Nat) (ad : Nat → Nat) (M : CS) (adN : Nat → Nat) (N : CS) (adF : Nat → Nat) (F : CS) (adQ : Nat → Nat) (Q : HS) (a1 : Int32) (a2 : Int32) (a3 : Int32) (hok : o_X6_mix M N F Q a1 a2 a3) : CW l yX6_mix (.code yX6_mix cX6_mix 4 (some .int)) 5 g [.ref h, .int a1, .int a2, .int a3] (cat [wMa h ad M, wSt g (ad 0) adN N, wSt g (ad 1) adF F, wHi g (ad 4) adQ Q]) (some (.int (f_X6_mix M N F Q a1 a2 a3).1)) (cat [wMa h ad M, wSt g (ad 0) adN (f_X6_mix M N F Q a1 a2 a3).2.1, wSt g (ad 1) adF (f_X6_mix M N F Q a1 a2 a3).2.2.1, wHi g (ad 4) adQ (f_X6_mix M N F Q a1 a2 a3).2.2.2]) := by
  obtain ⟨RES, hRES⟩ : ∃ z, z = (f_X6_mix M N F Q a1 a2 a3) := ⟨_, rfl⟩
  rw [← hRES]
  unfold f_X6_mix at hRES
  unfold o_X6_mix at hok
  refine CWx.of (nL := 4) (ret := (some .int)) (own := RX6) (cc := cX6_mix) rfl (by decide) rfl (List.forall_mem_cons.mpr ⟨rfl, (List.forall_mem_cons.mpr ⟨rfl, (List.forall_mem_cons.mpr ⟨rfl, (List.forall_mem_cons.mpr ⟨rfl, (fun _ h => absurd h List.not_mem_nil)⟩)⟩)⟩)⟩) (Nat.le_of_ble_eq_true rfl) ?_
  intro k C B hin hkl hkg
  subst hkl; subst hkg
  refine x_loc2 (L' := [some (.ref h), some (.int a1), some (.int a2), some (.int a3)]) rfl ?_
  refine x_aload_n (pc' := 1) C dX6_mix_0 rfl rfl rfl ?_
  obtain ⟨z1, ez1⟩ : ∃ z, z = (f_X6_beginAct M N F) := ⟨_, rfl⟩
  replace hRES := bd hRES z1 ez1
  replace hok := bdP hok z1 ez1
  have hc := c_X6_beginAct (kl k) (kg k) h ad M adN N adF F
  rw [← ez1] at hc
  refine x_catWV (st := []) (st2 := []) (pc' := 4) (wcs := [wMa h ad M, wSt (kg k) (ad 0) adN N, wSt (kg k) (ad 1) adF F]) (wrs := [wHi (kg k) (ad 4) adQ Q]) (wcs' := [wMa h ad M, wSt (kg k) (ad 0) adN N, wSt (kg k) (ad 1) adF z1]) C B [wMa h ad M, wSt (kg k) (ad 0) adN N, wSt (kg k) (ad 1) adF z1, wHi (kg k) (ad 4) adQ Q] hc rfl rfl cw_X6_43 ok_X6_beginAct rfl (by decide) rfl rfl [3, 0, 1, 2] [1, 2, 3, 0] rfl rfl rfl rfl rfl (Nat.le_of_ble_eq_true rfl) (Nat.zero_le _) (Nat.zero_le _) rfl dX6_mix_1 rfl rfl ?_
  refine x_aload_n (pc' := 5) C dX6_mix_4 rfl rfl rfl ?_
  refine x_aload_n (pc' := 6) C dX6_mix_5 rfl rfl rfl ?_
  refine x_iload_n (pc' := 7) C dX6_mix_6 rfl rfl rfl ?_
  refine x_iload_n (pc' := 8) C dX6_mix_7 rfl rfl rfl ?_
  refine x_iload_n (pc' := 9) C dX6_mix_8 rfl rfl rfl ?_
  obtain ⟨z2, ez2⟩ : ∃ z, z = (f_X6_tryMix M N a1 a2 a3) := ⟨_, rfl⟩
  replace hRES := bd hRES z2 ez2
  replace hok := bdP hok z2 ez2
  have hc := c_X6_tryMix (kl k) (kg k) h ad M adN N a1 a2 a3
  rw [← ez2] at hc
  refine x_catWV (st := [.ref h]) (st2 := [.int z2.1, .ref h]) (pc' := 12) (wcs := [wMa h ad M, wSt (kg k) (ad 0) adN N]) (wrs := [wSt (kg k) (ad 1) adF z1, wHi (kg k) (ad 4) adQ Q]) (wcs' := [wMa h ad M, wSt (kg k) (ad 0) adN z2.2]) C B [wMa h ad M, wSt (kg k) (ad 0) adN z2.2, wSt (kg k) (ad 1) adF z1, wHi (kg k) (ad 4) adQ Q] hc rfl rfl cw_X6_54 ok_X6_tryMix rfl (by decide) rfl rfl [2, 3, 0, 1] [2, 3, 0, 1] rfl rfl rfl rfl rfl (Nat.le_of_ble_eq_true rfl) (Nat.zero_le _) (Nat.zero_le _) rfl dX6_mix_9 rfl rfl ?_
  obtain ⟨hn3, hok⟩ := hok
  obtain ⟨z4, ez4⟩ : ∃ z, z = (f_X6_endAct M z1 Q z2.1) := ⟨_, rfl⟩
  replace hRES := bd hRES z4 ez4
  replace hok := bdP hok z4 ez4
  have hc := c_X6_endAct (kl k) (kg k) h ad M adF z1 adQ Q z2.1 hn3
  rw [← ez4] at hc
  refine x_catWV (st := []) (st2 := [.int z4.1]) (pc' := 15) (wcs := [wMa h ad M, wSt (kg k) (ad 1) adF z1, wHi (kg k) (ad 4) adQ Q]) (wrs := [wSt (kg k) (ad 0) adN z2.2]) (wcs' := [wMa h ad M, wSt (kg k) (ad 1) adF z1, wHi (kg k) (ad 4) adQ z4.2]) C B [wMa h ad M, wSt (kg k) (ad 0) adN z2.2, wSt (kg k) (ad 1) adF z1, wHi (kg k) (ad 4) adQ z4.2] hc rfl rfl cw_X6_50 ok_X6_endAct rfl (by decide) rfl rfl [1, 0, 2, 3] [1, 0, 2, 3] rfl rfl rfl rfl rfl (Nat.le_of_ble_eq_true rfl) (Nat.zero_le _) (Nat.zero_le _) rfl dX6_mix_12 rfl rfl ?_
  exact x_iret C (Nat.zero_le _) (Nat.zero_le _) dX6_mix_15 ⟨by rw [hRES], by rw [hRES]⟩

def f_X6_remove (M : CS) (N : CS) (F : CS) (Q : HS) (a1 : Int32) : Int32 × CS × CS × HS := (if (f_X5_has N a1) = true then (if a1 = 0 then ((-4), N, F, Q) else (if 0 < (f_X5_madeOf N a1) then ((-4), N, F, Q) else (bind1 (f_X6_beginAct M N F) (fun z4 => (if (f_X5_isRoot N a1) = true then (if (f_X5_isKept N a1) = true then (bind1 (f_X5_addRoot N (f_X5_sourceOf N a1)) (fun z13 => (bind1 (f_X5_drop z13 a1) (fun z14 => (bind1 (f_X6_endAct M z4 Q (f_X5_howMany z14)) (fun z16 => (z16.1, z14, z4, z16.2))))))) else (bind1 (f_X5_drop N a1) (fun z10 => (bind1 (f_X6_endAct M z4 Q (f_X5_howMany z10)) (fun z12 => (z12.1, z10, z4, z12.2)))))) else (bind1 (f_X5_drop N a1) (fun z6 => (bind1 (f_X6_endAct M z4 Q (f_X5_howMany z6)) (fun z8 => (z8.1, z6, z4, z8.2)))))))))) else ((-1), N, F, Q))
def o_X6_remove (M : CS) (N : CS) (F : CS) (Q : HS) (a1 : Int32) : Prop := (((f_X5_has N a1) = true → ((a1 = 0 → True) ∧ (¬ (a1 = 0) → ((0 < (f_X5_madeOf N a1) → True) ∧ (¬ (0 < (f_X5_madeOf N a1)) → (bind1 (f_X6_beginAct M N F) (fun z4 => (((f_X5_isRoot N a1) = true → (((f_X5_isKept N a1) = true → (bind1 (f_X5_addRoot N (f_X5_sourceOf N a1)) (fun z13 => (bind1 (f_X5_drop z13 a1) (fun z14 => ((o_X6_endAct M z4 Q (f_X5_howMany z14)) ∧ (bind1 (f_X6_endAct M z4 Q (f_X5_howMany z14)) (fun z16 => True)))))))) ∧ (¬ (f_X5_isKept N a1) = true → (bind1 (f_X5_drop N a1) (fun z10 => ((o_X6_endAct M z4 Q (f_X5_howMany z10)) ∧ (bind1 (f_X6_endAct M z4 Q (f_X5_howMany z10)) (fun z12 => True)))))))) ∧ (¬ (f_X5_isRoot N a1) = true → (bind1 (f_X5_drop N a1) (fun z6 => ((o_X6_endAct M z4 Q (f_X5_howMany z6)) ∧ (bind1 (f_X6_endAct M z4 Q (f_X5_howMany z6)) (fun z8 => True)))))))))))))) ∧ (¬ (f_X5_has N a1) = true → True))
set_option maxRecDepth 100000 in
set_option maxHeartbeats 8000000 in
theorem c_X6_remove (l : Launch) (g : GT) (h : Nat) (ad : Nat → Nat) (M : CS) (adN : Nat → Nat) (N : CS) (adF : Nat → Nat) (F : CS) (adQ : Nat → Nat) (Q : HS) (a1 : Int32) (hok : o_X6_remove M N F Q a1) : CW l yX6_remove (.code yX6_remove cX6_remove 2 (some .int)) 5 g [.ref h, .int a1] (cat [wMa h ad M, wSt g (ad 0) adN N, wSt g (ad 1) adF F, wHi g (ad 4) adQ Q]) (some (.int (f_X6_remove M N F Q a1).1)) (cat [wMa h ad M, wSt g (ad 0) adN (f_X6_remove M N F Q a1).2.1, wSt g (ad 1) adF (f_X6_remove M N F Q a1).2.2.1, wHi g (ad 4) adQ (f_X6_remove M N F Q a1).2.2.2]) := by
  obtain ⟨RES, hRES⟩ : ∃ z, z = (f_X6_remove M N F Q a1) := ⟨_, rfl⟩
  rw [← hRES]
  unfold f_X6_remove at hRES
  unfold o_X6_remove at hok
  refine CWx.of (nL := 2) (ret := (some .int)) (own := RX6) (cc := cX6_remove) rfl (by decide) rfl (List.forall_mem_cons.mpr ⟨rfl, (List.forall_mem_cons.mpr ⟨rfl, (fun _ h => absurd h List.not_mem_nil)⟩)⟩) (Nat.le_of_ble_eq_true rfl) ?_
  intro k C B hin hkl hkg
  subst hkl; subst hkg
  refine x_loc2 (L' := [some (.ref h), some (.int a1)]) rfl ?_
  refine x_aload_n (pc' := 1) C dX6_remove_0 rfl rfl rfl ?_
  refine x_get (pc' := 4) (v := .ref (ad 0)) C 0 0 inBX6 rfl rfl (by decide) fl_X6_10 rfl rfl dX6_remove_1 rfl ?_
  refine x_iload_n (pc' := 5) C dX6_remove_4 rfl rfl rfl ?_
  refine x_catRV (st := []) (st2 := [.int (bI (f_X5_has N a1))]) (pc' := 8) (wcs := [wSt (kg k) (ad 0) adN N]) C (c_X5_has (kl k) (kg k) (ad 0) adN N a1) (by simp only [cat, List.append_nil]) cw_X6_57 ok_X5_has rfl (by decide) rfl rfl [1] rfl rfl rfl (Nat.le_of_ble_eq_true rfl) (Nat.zero_le _) (Nat.zero_le _) rfl dX6_remove_5 rfl rfl ?_
  refine x_ifB_ne (tgt := 13) (pc' := 11) C dX6_remove_8 (by decide) rfl (fun c1 => ?_) (fun c1 => ?_)
  · rw [if_pos c1] at hRES
    replace hok := hok.1 c1
    refine x_iload_n (pc' := 14) C dX6_remove_13 rfl rfl rfl ?_
    refine x_if_eq (tgt := 28) (pc' := 17) C dX6_remove_14 (by decide) rfl (fun c2 => ?_) (fun c2 => ?_)
    · rw [if_pos c2] at hRES
      replace hok := hok.1 c2
      refine x_bipush (v := (-4)) (pc' := 30) C dX6_remove_28 rfl (by decide) ?_
      exact x_iret C (Nat.zero_le _) (Nat.zero_le _) dX6_remove_30 ⟨by rw [hRES], by rw [hRES]⟩
    · rw [if_neg c2] at hRES
      replace hok := hok.2 c2
      refine x_aload_n (pc' := 18) C dX6_remove_17 rfl rfl rfl ?_
      refine x_get (pc' := 21) (v := .ref (ad 0)) C 0 0 inBX6 rfl rfl (by decide) fl_X6_10 rfl rfl dX6_remove_18 rfl ?_
      refine x_iload_n (pc' := 22) C dX6_remove_21 rfl rfl rfl ?_
      refine x_catRV (st := []) (st2 := [.int (f_X5_madeOf N a1)]) (pc' := 25) (wcs := [wSt (kg k) (ad 0) adN N]) C (c_X5_madeOf (kl k) (kg k) (ad 0) adN N a1) (by simp only [cat, List.append_nil]) cw_X6_61 ok_X5_madeOf rfl (by decide) rfl rfl [1] rfl rfl rfl (Nat.le_of_ble_eq_true rfl) (Nat.zero_le _) (Nat.zero_le _) rfl dX6_remove_22 rfl rfl ?_
      refine x_if_le (tgt := 31) (pc' := 28) C dX6_remove_25 (by decide) rfl (fun c3 => ?_) (fun c3 => ?_)
      · rw [if_neg c3] at hRES
        replace hok := hok.2 c3
        refine x_aload_n (pc' := 32) C dX6_remove_31 rfl rfl rfl ?_
        obtain ⟨z4, ez4⟩ : ∃ z, z = (f_X6_beginAct M N F) := ⟨_, rfl⟩
        replace hRES := bd hRES z4 ez4
        replace hok := bdP hok z4 ez4
        have hc := c_X6_beginAct (kl k) (kg k) h ad M adN N adF F
        rw [← ez4] at hc
        refine x_catWV (st := []) (st2 := []) (pc' := 35) (wcs := [wMa h ad M, wSt (kg k) (ad 0) adN N, wSt (kg k) (ad 1) adF F]) (wrs := [wHi (kg k) (ad 4) adQ Q]) (wcs' := [wMa h ad M, wSt (kg k) (ad 0) adN N, wSt (kg k) (ad 1) adF z4]) C B [wMa h ad M, wSt (kg k) (ad 0) adN N, wSt (kg k) (ad 1) adF z4, wHi (kg k) (ad 4) adQ Q] hc rfl rfl cw_X6_43 ok_X6_beginAct rfl (by decide) rfl rfl [3, 0, 1, 2] [1, 2, 3, 0] rfl rfl rfl rfl rfl (Nat.le_of_ble_eq_true rfl) (Nat.zero_le _) (Nat.zero_le _) rfl dX6_remove_32 rfl rfl ?_
        refine x_aload_n (pc' := 36) C dX6_remove_35 rfl rfl rfl ?_
        refine x_get (pc' := 39) (v := .ref (ad 0)) C 0 0 inBX6 rfl rfl (by decide) fl_X6_10 rfl rfl dX6_remove_36 rfl ?_
        refine x_iload_n (pc' := 40) C dX6_remove_39 rfl rfl rfl ?_
        refine x_catRV (st := []) (st2 := [.int (bI (f_X5_isRoot N a1))]) (pc' := 43) (wcs := [wSt (kg k) (ad 0) adN N]) C (c_X5_isRoot (kl k) (kg k) (ad 0) adN N a1) (by simp only [cat, List.append_nil]) cw_X6_64 ok_X5_isRoot rfl (by decide) rfl rfl [1] rfl rfl rfl (Nat.le_of_ble_eq_true rfl) (Nat.zero_le _) (Nat.zero_le _) rfl dX6_remove_40 rfl rfl ?_
        refine x_ifB_eq (tgt := 72) (pc' := 46) C dX6_remove_43 (by decide) rfl (fun c5 => ?_) (fun c5 => ?_)
        · rw [if_neg c5] at hRES
          replace hok := hok.2 c5
          refine x_aload_n (pc' := 73) C dX6_remove_72 rfl rfl rfl ?_
          refine x_get (pc' := 76) (v := .ref (ad 0)) C 0 0 inBX6 rfl rfl (by decide) fl_X6_10 rfl rfl dX6_remove_73 rfl ?_
          refine x_iload_n (pc' := 77) C dX6_remove_76 rfl rfl rfl ?_
          obtain ⟨z6, ez6⟩ : ∃ z, z = (f_X5_drop N a1) := ⟨_, rfl⟩
          replace hRES := bd hRES z6 ez6
          replace hok := bdP hok z6 ez6
          have hc := c_X5_drop (kl k) (kg k) (ad 0) adN N a1
          rw [← ez6] at hc
          refine x_catWV (st := []) (st2 := []) (pc' := 80) (wcs := [wSt (kg k) (ad 0) adN N]) (wrs := [wMa h ad M, wSt (kg k) (ad 1) adF z4, wHi (kg k) (ad 4) adQ Q]) (wcs' := [wSt (kg k) (ad 0) adN z6]) C B [wMa h ad M, wSt (kg k) (ad 0) adN z6, wSt (kg k) (ad 1) adF z4, wHi (kg k) (ad 4) adQ Q] hc (by simp only [cat, List.append_nil]) (by simp only [cat, List.append_nil]) cw_X6_77 ok_X5_drop rfl (by decide) rfl rfl [0, 2, 3, 1] [0, 3, 1, 2] rfl rfl rfl rfl rfl (Nat.le_of_ble_eq_true rfl) (Nat.zero_le _) (Nat.zero_le _) rfl dX6_remove_77 rfl rfl ?_
          refine x_aload_n (pc' := 81) C dX6_remove_80 rfl rfl rfl ?_
          refine x_aload_n (pc' := 82) C dX6_remove_81 rfl rfl rfl ?_
          refine x_get (pc' := 85) (v := .ref (ad 0)) C 0 0 inBX6 rfl rfl (by decide) fl_X6_10 rfl rfl dX6_remove_82 rfl ?_
          refine x_catRV (st := [.ref h]) (st2 := [.int (f_X5_howMany z6), .ref h]) (pc' := 88) (wcs := [wSt (kg k) (ad 0) adN z6]) C (c_X5_howMany (kl k) (kg k) (ad 0) adN z6) (by simp only [cat, List.append_nil]) cw_X6_80 ok_X5_howMany rfl (by decide) rfl rfl [1] rfl rfl rfl (Nat.le_of_ble_eq_true rfl) (Nat.zero_le _) (Nat.zero_le _) rfl dX6_remove_85 rfl rfl ?_
          obtain ⟨hn7, hok⟩ := hok
          obtain ⟨z8, ez8⟩ : ∃ z, z = (f_X6_endAct M z4 Q (f_X5_howMany z6)) := ⟨_, rfl⟩
          replace hRES := bd hRES z8 ez8
          replace hok := bdP hok z8 ez8
          have hc := c_X6_endAct (kl k) (kg k) h ad M adF z4 adQ Q (f_X5_howMany z6) hn7
          rw [← ez8] at hc
          refine x_catWV (st := []) (st2 := [.int z8.1]) (pc' := 91) (wcs := [wMa h ad M, wSt (kg k) (ad 1) adF z4, wHi (kg k) (ad 4) adQ Q]) (wrs := [wSt (kg k) (ad 0) adN z6]) (wcs' := [wMa h ad M, wSt (kg k) (ad 1) adF z4, wHi (kg k) (ad 4) adQ z8.2]) C B [wMa h ad M, wSt (kg k) (ad 0) adN z6, wSt (kg k) (ad 1) adF z4, wHi (kg k) (ad 4) adQ z8.2] hc rfl rfl cw_X6_50 ok_X6_endAct rfl (by decide) rfl rfl [1, 0, 2, 3] [1, 0, 2, 3] rfl rfl rfl rfl rfl (Nat.le_of_ble_eq_true rfl) (Nat.zero_le _) (Nat.zero_le _) rfl dX6_remove_88 rfl rfl ?_
          exact x_iret C (Nat.zero_le _) (Nat.zero_le _) dX6_remove_91 ⟨by rw [hRES], by rw [hRES]⟩
        · rw [if_pos c5] at hRES
          replace hok := hok.1 c5
          refine x_aload_n (pc' := 47) C dX6_remove_46 rfl rfl rfl ?_
          refine x_get (pc' := 50) (v := .ref (ad 0)) C 0 0 inBX6 rfl rfl (by decide) fl_X6_10 rfl rfl dX6_remove_47 rfl ?_
          refine x_iload_n (pc' := 51) C dX6_remove_50 rfl rfl rfl ?_
          refine x_catRV (st := []) (st2 := [.int (bI (f_X5_isKept N a1))]) (pc' := 54) (wcs := [wSt (kg k) (ad 0) adN N]) C (c_X5_isKept (kl k) (kg k) (ad 0) adN N a1) (by simp only [cat, List.append_nil]) cw_X6_67 ok_X5_isKept rfl (by decide) rfl rfl [1] rfl rfl rfl (Nat.le_of_ble_eq_true rfl) (Nat.zero_le _) (Nat.zero_le _) rfl dX6_remove_51 rfl rfl ?_
          refine x_ifB_eq (tgt := 72) (pc' := 57) C dX6_remove_54 (by decide) rfl (fun c9 => ?_) (fun c9 => ?_)
          · rw [if_neg c9] at hRES
            replace hok := hok.2 c9
            refine x_aload_n (pc' := 73) C dX6_remove_72 rfl rfl rfl ?_
            refine x_get (pc' := 76) (v := .ref (ad 0)) C 0 0 inBX6 rfl rfl (by decide) fl_X6_10 rfl rfl dX6_remove_73 rfl ?_
            refine x_iload_n (pc' := 77) C dX6_remove_76 rfl rfl rfl ?_
            obtain ⟨z10, ez10⟩ : ∃ z, z = (f_X5_drop N a1) := ⟨_, rfl⟩
            replace hRES := bd hRES z10 ez10
            replace hok := bdP hok z10 ez10
            have hc := c_X5_drop (kl k) (kg k) (ad 0) adN N a1
            rw [← ez10] at hc
            refine x_catWV (st := []) (st2 := []) (pc' := 80) (wcs := [wSt (kg k) (ad 0) adN N]) (wrs := [wMa h ad M, wSt (kg k) (ad 1) adF z4, wHi (kg k) (ad 4) adQ Q]) (wcs' := [wSt (kg k) (ad 0) adN z10]) C B [wMa h ad M, wSt (kg k) (ad 0) adN z10, wSt (kg k) (ad 1) adF z4, wHi (kg k) (ad 4) adQ Q] hc (by simp only [cat, List.append_nil]) (by simp only [cat, List.append_nil]) cw_X6_77 ok_X5_drop rfl (by decide) rfl rfl [0, 2, 3, 1] [0, 3, 1, 2] rfl rfl rfl rfl rfl (Nat.le_of_ble_eq_true rfl) (Nat.zero_le _) (Nat.zero_le _) rfl dX6_remove_77 rfl rfl ?_
            refine x_aload_n (pc' := 81) C dX6_remove_80 rfl rfl rfl ?_
            refine x_aload_n (pc' := 82) C dX6_remove_81 rfl rfl rfl ?_
            refine x_get (pc' := 85) (v := .ref (ad 0)) C 0 0 inBX6 rfl rfl (by decide) fl_X6_10 rfl rfl dX6_remove_82 rfl ?_
            refine x_catRV (st := [.ref h]) (st2 := [.int (f_X5_howMany z10), .ref h]) (pc' := 88) (wcs := [wSt (kg k) (ad 0) adN z10]) C (c_X5_howMany (kl k) (kg k) (ad 0) adN z10) (by simp only [cat, List.append_nil]) cw_X6_80 ok_X5_howMany rfl (by decide) rfl rfl [1] rfl rfl rfl (Nat.le_of_ble_eq_true rfl) (Nat.zero_le _) (Nat.zero_le _) rfl dX6_remove_85 rfl rfl ?_
            obtain ⟨hn11, hok⟩ := hok
            obtain ⟨z12, ez12⟩ : ∃ z, z = (f_X6_endAct M z4 Q (f_X5_howMany z10)) := ⟨_, rfl⟩
            replace hRES := bd hRES z12 ez12
            replace hok := bdP hok z12 ez12
            have hc := c_X6_endAct (kl k) (kg k) h ad M adF z4 adQ Q (f_X5_howMany z10) hn11
            rw [← ez12] at hc
            refine x_catWV (st := []) (st2 := [.int z12.1]) (pc' := 91) (wcs := [wMa h ad M, wSt (kg k) (ad 1) adF z4, wHi (kg k) (ad 4) adQ Q]) (wrs := [wSt (kg k) (ad 0) adN z10]) (wcs' := [wMa h ad M, wSt (kg k) (ad 1) adF z4, wHi (kg k) (ad 4) adQ z12.2]) C B [wMa h ad M, wSt (kg k) (ad 0) adN z10, wSt (kg k) (ad 1) adF z4, wHi (kg k) (ad 4) adQ z12.2] hc rfl rfl cw_X6_50 ok_X6_endAct rfl (by decide) rfl rfl [1, 0, 2, 3] [1, 0, 2, 3] rfl rfl rfl rfl rfl (Nat.le_of_ble_eq_true rfl) (Nat.zero_le _) (Nat.zero_le _) rfl dX6_remove_88 rfl rfl ?_
            exact x_iret C (Nat.zero_le _) (Nat.zero_le _) dX6_remove_91 ⟨by rw [hRES], by rw [hRES]⟩
          · rw [if_pos c9] at hRES
            replace hok := hok.1 c9
            refine x_aload_n (pc' := 58) C dX6_remove_57 rfl rfl rfl ?_
            refine x_get (pc' := 61) (v := .ref (ad 0)) C 0 0 inBX6 rfl rfl (by decide) fl_X6_10 rfl rfl dX6_remove_58 rfl ?_
            refine x_aload_n (pc' := 62) C dX6_remove_61 rfl rfl rfl ?_
            refine x_get (pc' := 65) (v := .ref (ad 0)) C 0 0 inBX6 rfl rfl (by decide) fl_X6_10 rfl rfl dX6_remove_62 rfl ?_
            refine x_iload_n (pc' := 66) C dX6_remove_65 rfl rfl rfl ?_
            refine x_catRV (st := [.ref (ad 0)]) (st2 := [.int (f_X5_sourceOf N a1), .ref (ad 0)]) (pc' := 69) (wcs := [wSt (kg k) (ad 0) adN N]) C (c_X5_sourceOf (kl k) (kg k) (ad 0) adN N a1) (by simp only [cat, List.append_nil]) cw_X6_70 ok_X5_sourceOf rfl (by decide) rfl rfl [1] rfl rfl rfl (Nat.le_of_ble_eq_true rfl) (Nat.zero_le _) (Nat.zero_le _) rfl dX6_remove_66 rfl rfl ?_
            obtain ⟨z13, ez13⟩ : ∃ z, z = (f_X5_addRoot N (f_X5_sourceOf N a1)) := ⟨_, rfl⟩
            replace hRES := bd hRES z13 ez13
            replace hok := bdP hok z13 ez13
            have hc := c_X5_addRoot (kl k) (kg k) (ad 0) adN N (f_X5_sourceOf N a1)
            rw [← ez13] at hc
            refine x_catWV (st := []) (st2 := []) (pc' := 72) (wcs := [wSt (kg k) (ad 0) adN N]) (wrs := [wMa h ad M, wSt (kg k) (ad 1) adF z4, wHi (kg k) (ad 4) adQ Q]) (wcs' := [wSt (kg k) (ad 0) adN z13]) C B [wMa h ad M, wSt (kg k) (ad 0) adN z13, wSt (kg k) (ad 1) adF z4, wHi (kg k) (ad 4) adQ Q] hc (by simp only [cat, List.append_nil]) (by simp only [cat, List.append_nil]) cw_X6_73 ok_X5_addRoot rfl (by decide) rfl rfl [0, 2, 3, 1] [0, 3, 1, 2] rfl rfl rfl rfl rfl (Nat.le_of_ble_eq_true rfl) (Nat.zero_le _) (Nat.zero_le _) rfl dX6_remove_69 rfl rfl ?_
            refine x_aload_n (pc' := 73) C dX6_remove_72 rfl rfl rfl ?_
            refine x_get (pc' := 76) (v := .ref (ad 0)) C 0 0 inBX6 rfl rfl (by decide) fl_X6_10 rfl rfl dX6_remove_73 rfl ?_
            refine x_iload_n (pc' := 77) C dX6_remove_76 rfl rfl rfl ?_
            obtain ⟨z14, ez14⟩ : ∃ z, z = (f_X5_drop z13 a1) := ⟨_, rfl⟩
            replace hRES := bd hRES z14 ez14
            replace hok := bdP hok z14 ez14
            have hc := c_X5_drop (kl k) (kg k) (ad 0) adN z13 a1
            rw [← ez14] at hc
            refine x_catWV (st := []) (st2 := []) (pc' := 80) (wcs := [wSt (kg k) (ad 0) adN z13]) (wrs := [wMa h ad M, wSt (kg k) (ad 1) adF z4, wHi (kg k) (ad 4) adQ Q]) (wcs' := [wSt (kg k) (ad 0) adN z14]) C B [wMa h ad M, wSt (kg k) (ad 0) adN z14, wSt (kg k) (ad 1) adF z4, wHi (kg k) (ad 4) adQ Q] hc (by simp only [cat, List.append_nil]) (by simp only [cat, List.append_nil]) cw_X6_77 ok_X5_drop rfl (by decide) rfl rfl [0, 2, 3, 1] [0, 3, 1, 2] rfl rfl rfl rfl rfl (Nat.le_of_ble_eq_true rfl) (Nat.zero_le _) (Nat.zero_le _) rfl dX6_remove_77 rfl rfl ?_
            refine x_aload_n (pc' := 81) C dX6_remove_80 rfl rfl rfl ?_
            refine x_aload_n (pc' := 82) C dX6_remove_81 rfl rfl rfl ?_
            refine x_get (pc' := 85) (v := .ref (ad 0)) C 0 0 inBX6 rfl rfl (by decide) fl_X6_10 rfl rfl dX6_remove_82 rfl ?_
            refine x_catRV (st := [.ref h]) (st2 := [.int (f_X5_howMany z14), .ref h]) (pc' := 88) (wcs := [wSt (kg k) (ad 0) adN z14]) C (c_X5_howMany (kl k) (kg k) (ad 0) adN z14) (by simp only [cat, List.append_nil]) cw_X6_80 ok_X5_howMany rfl (by decide) rfl rfl [1] rfl rfl rfl (Nat.le_of_ble_eq_true rfl) (Nat.zero_le _) (Nat.zero_le _) rfl dX6_remove_85 rfl rfl ?_
            obtain ⟨hn15, hok⟩ := hok
            obtain ⟨z16, ez16⟩ : ∃ z, z = (f_X6_endAct M z4 Q (f_X5_howMany z14)) := ⟨_, rfl⟩
            replace hRES := bd hRES z16 ez16
            replace hok := bdP hok z16 ez16
            have hc := c_X6_endAct (kl k) (kg k) h ad M adF z4 adQ Q (f_X5_howMany z14) hn15
            rw [← ez16] at hc
            refine x_catWV (st := []) (st2 := [.int z16.1]) (pc' := 91) (wcs := [wMa h ad M, wSt (kg k) (ad 1) adF z4, wHi (kg k) (ad 4) adQ Q]) (wrs := [wSt (kg k) (ad 0) adN z14]) (wcs' := [wMa h ad M, wSt (kg k) (ad 1) adF z4, wHi (kg k) (ad 4) adQ z16.2]) C B [wMa h ad M, wSt (kg k) (ad 0) adN z14, wSt (kg k) (ad 1) adF z4, wHi (kg k) (ad 4) adQ z16.2] hc rfl rfl cw_X6_50 ok_X6_endAct rfl (by decide) rfl rfl [1, 0, 2, 3] [1, 0, 2, 3] rfl rfl rfl rfl rfl (Nat.le_of_ble_eq_true rfl) (Nat.zero_le _) (Nat.zero_le _) rfl dX6_remove_88 rfl rfl ?_
            exact x_iret C (Nat.zero_le _) (Nat.zero_le _) dX6_remove_91 ⟨by rw [hRES], by rw [hRES]⟩
      · rw [if_pos c3] at hRES
        replace hok := hok.1 c3
        refine x_bipush (v := (-4)) (pc' := 30) C dX6_remove_28 rfl (by decide) ?_
        exact x_iret C (Nat.zero_le _) (Nat.zero_le _) dX6_remove_30 ⟨by rw [hRES], by rw [hRES]⟩
  · rw [if_neg c1] at hRES
    replace hok := hok.2 c1
    refine x_iconst (v := (-1)) (pc' := 12) C dX6_remove_11 rfl (by decide) ?_
    exact x_iret C (Nat.zero_le _) (Nat.zero_le _) dX6_remove_12 ⟨by rw [hRES], by rw [hRES]⟩

def f_X6_rulePrefers (M : CS) (N : CS) (a1 : Int32) (a2 : Int32) : Bool := (if N.1 7 = 0 then false else (if N.1 7 = 1 then true else (if (f_X5_askedFor N a2) < (f_X5_askedFor N a1) then true else false)))
set_option maxRecDepth 100000 in
set_option maxHeartbeats 8000000 in
theorem c_X6_rulePrefers (l : Launch) (g : GT) (h : Nat) (ad : Nat → Nat) (M : CS) (adN : Nat → Nat) (N : CS) (a1 : Int32) (a2 : Int32) : CR l yX6_rulePrefers (.code yX6_rulePrefers cX6_rulePrefers 3 (some .boolean)) 2 g [.ref h, .int a1, .int a2] (cat [wMa h ad M, wSt g (ad 0) adN N]) (some (.int (bI (f_X6_rulePrefers M N a1 a2)))) := by
  obtain ⟨RES, hRES⟩ : ∃ z, z = (f_X6_rulePrefers M N a1 a2) := ⟨_, rfl⟩
  rw [← hRES]
  unfold f_X6_rulePrefers at hRES
  refine CRx.of (nL := 3) (ret := (some .boolean)) (own := RX6) (cc := cX6_rulePrefers) rfl (by decide) rfl (List.forall_mem_cons.mpr ⟨rfl, (List.forall_mem_cons.mpr ⟨rfl, (List.forall_mem_cons.mpr ⟨rfl, (fun _ h => absurd h List.not_mem_nil)⟩)⟩)⟩) (Nat.le_of_ble_eq_true rfl) ?_
  intro k C hkl hkg
  subst hkl; subst hkg
  refine x_loc2 (L' := [some (.ref h), some (.int a1), some (.int a2)]) rfl ?_
  refine x_aload_n (pc' := 1) C dX6_rulePrefers_0 rfl rfl rfl ?_
  refine x_get (pc' := 4) (v := .ref (ad 0)) C 0 0 inBX6 rfl rfl (by decide) fl_X6_10 rfl rfl dX6_rulePrefers_1 rfl ?_
  refine x_get (pc' := 7) (v := .int (N.1 7)) C 1 7 inBX5 rfl rfl (by decide) fl_X6_103 rfl rfl dX6_rulePrefers_4 rfl ?_
  refine x_if_ne (tgt := 12) (pc' := 10) C dX6_rulePrefers_7 (by decide) rfl (fun c1 => ?_) (fun c1 => ?_)
  · rw [if_neg c1] at hRES
    refine x_aload_n (pc' := 13) C dX6_rulePrefers_12 rfl rfl rfl ?_
    refine x_get (pc' := 16) (v := .ref (ad 0)) C 0 0 inBX6 rfl rfl (by decide) fl_X6_10 rfl rfl dX6_rulePrefers_13 rfl ?_
    refine x_get (pc' := 19) (v := .int (N.1 7)) C 1 7 inBX5 rfl rfl (by decide) fl_X6_103 rfl rfl dX6_rulePrefers_16 rfl ?_
    refine x_iconst (v := 1) (pc' := 20) C dX6_rulePrefers_19 rfl (by decide) ?_
    refine x_icmp_eq (tgt := 42) (pc' := 23) C dX6_rulePrefers_20 (by decide) rfl (fun c2 => ?_) (fun c2 => ?_)
    · rw [if_pos c2] at hRES
      refine x_iconst (v := 1) (pc' := 43) C dX6_rulePrefers_42 rfl (by decide) ?_
      refine x_goto (tgt := 47) C dX6_rulePrefers_43 (by decide) ?_
      exact x_zret (b := true) C (Nat.zero_le _) (Nat.zero_le _) dX6_rulePrefers_47 (by rw [hRES])
    · rw [if_neg c2] at hRES
      refine x_aload_n (pc' := 24) C dX6_rulePrefers_23 rfl rfl rfl ?_
      refine x_get (pc' := 27) (v := .ref (ad 0)) C 0 0 inBX6 rfl rfl (by decide) fl_X6_10 rfl rfl dX6_rulePrefers_24 rfl ?_
      refine x_iload_n (pc' := 28) C dX6_rulePrefers_27 rfl rfl rfl ?_
      refine x_catRV (st := []) (st2 := [.int (f_X5_askedFor N a1)]) (pc' := 31) (wcs := [wSt (kg k) (ad 0) adN N]) C (c_X5_askedFor (kl k) (kg k) (ad 0) adN N a1) (by simp only [cat, List.append_nil]) cw_X6_168 ok_X5_askedFor rfl (by decide) rfl rfl [1] rfl rfl rfl (Nat.le_of_ble_eq_true rfl) (Nat.zero_le _) (Nat.zero_le _) rfl dX6_rulePrefers_28 rfl rfl ?_
      refine x_aload_n (pc' := 32) C dX6_rulePrefers_31 rfl rfl rfl ?_
      refine x_get (pc' := 35) (v := .ref (ad 0)) C 0 0 inBX6 rfl rfl (by decide) fl_X6_10 rfl rfl dX6_rulePrefers_32 rfl ?_
      refine x_iload_n (pc' := 36) C dX6_rulePrefers_35 rfl rfl rfl ?_
      refine x_catRV (st := [.int (f_X5_askedFor N a1)]) (st2 := [.int (f_X5_askedFor N a2), .int (f_X5_askedFor N a1)]) (pc' := 39) (wcs := [wSt (kg k) (ad 0) adN N]) C (c_X5_askedFor (kl k) (kg k) (ad 0) adN N a2) (by simp only [cat, List.append_nil]) cw_X6_168 ok_X5_askedFor rfl (by decide) rfl rfl [1] rfl rfl rfl (Nat.le_of_ble_eq_true rfl) (Nat.zero_le _) (Nat.zero_le _) rfl dX6_rulePrefers_36 rfl rfl ?_
      refine x_icmp_le (tgt := 46) (pc' := 42) C dX6_rulePrefers_39 (by decide) rfl (fun c3 => ?_) (fun c3 => ?_)
      · rw [if_neg c3] at hRES
        refine x_iconst (v := 0) (pc' := 47) C dX6_rulePrefers_46 rfl (by decide) ?_
        exact x_zret (b := false) C (Nat.zero_le _) (Nat.zero_le _) dX6_rulePrefers_47 (by rw [hRES])
      · rw [if_pos c3] at hRES
        refine x_iconst (v := 1) (pc' := 43) C dX6_rulePrefers_42 rfl (by decide) ?_
        refine x_goto (tgt := 47) C dX6_rulePrefers_43 (by decide) ?_
        exact x_zret (b := true) C (Nat.zero_le _) (Nat.zero_le _) dX6_rulePrefers_47 (by rw [hRES])
  · rw [if_pos c1] at hRES
    refine x_iconst (v := 0) (pc' := 11) C dX6_rulePrefers_10 rfl (by decide) ?_
    exact x_zret (b := false) C (Nat.zero_le _) (Nat.zero_le _) dX6_rulePrefers_11 (by rw [hRES])

def f_X6_tryAsk (M : CS) (N : CS) (E : CS) (a1 : Int32) : Int32 × CS × CS := (if (f_X5_has N a1) = true then (bind1 (f_X2_spread E N a1) (fun z2 => (bind1 (f_X5_noteAsking N a1 (1 + (f_X2_cellsTo z2 (f_X2_rootReached z2 N)))) (fun z3 => (if z3.1 8 < (f_X2_stepsTo z2 (f_X2_rootReached z2 N)) then (bind1 (f_X2_towardsStart z2 (f_X2_rootReached z2 N) ((f_X2_stepsTo z2 (f_X2_rootReached z2 N)) - 1)) (fun z9 => (bind1 (f_X5_cutBetween z3 a1 z9) (fun z10 => (bind1 (f_X5_addRoot z10 a1) (fun z11 => (bind1 (setI z11 12 (z11.1 12 + 1)) (fun z12 => ((1 + (f_X2_cellsTo z2 (f_X2_rootReached z2 N))), z12, z2))))))))) else (if (f_X2_rootReached z2 N) = a1 then ((1 + (f_X2_cellsTo z2 (f_X2_rootReached z2 N))), z3, z2) else (if (f_X6_rulePrefers M z3 a1 (f_X2_rootReached z2 N)) = true then (bind1 (f_X5_moveRoot z3 (f_X2_rootReached z2 N) a1) (fun z7 => (bind1 (setI z7 11 (z7.1 11 + 1)) (fun z8 => ((1 + (f_X2_cellsTo z2 (f_X2_rootReached z2 N))), z8, z2))))) else ((1 + (f_X2_cellsTo z2 (f_X2_rootReached z2 N))), z3, z2)))))))) else ((-1), N, E))
set_option maxRecDepth 100000 in
set_option maxHeartbeats 8000000 in
theorem c_X6_tryAsk (l : Launch) (g : GT) (h : Nat) (ad : Nat → Nat) (M : CS) (adN : Nat → Nat) (N : CS) (adE : Nat → Nat) (E : CS) (a1 : Int32) : CW l yX6_tryAsk (.code yX6_tryAsk cX6_tryAsk 5 (some .int)) 4 g [.ref h, .int a1] (cat [wMa h ad M, wSt g (ad 0) adN N, wRe g (ad 5) adE E]) (some (.int (f_X6_tryAsk M N E a1).1)) (cat [wMa h ad M, wSt g (ad 0) adN (f_X6_tryAsk M N E a1).2.1, wRe g (ad 5) adE (f_X6_tryAsk M N E a1).2.2]) := by
  obtain ⟨RES, hRES⟩ : ∃ z, z = (f_X6_tryAsk M N E a1) := ⟨_, rfl⟩
  rw [← hRES]
  unfold f_X6_tryAsk at hRES
  refine CWx.of (nL := 5) (ret := (some .int)) (own := RX6) (cc := cX6_tryAsk) rfl (by decide) rfl (List.forall_mem_cons.mpr ⟨rfl, (List.forall_mem_cons.mpr ⟨rfl, (fun _ h => absurd h List.not_mem_nil)⟩)⟩) (Nat.le_of_ble_eq_true rfl) ?_
  intro k C B hin hkl hkg
  subst hkl; subst hkg
  refine x_loc2 (L' := [some (.ref h), some (.int a1), none, none, none]) rfl ?_
  refine x_aload_n (pc' := 1) C dX6_tryAsk_0 rfl rfl rfl ?_
  refine x_get (pc' := 4) (v := .ref (ad 0)) C 0 0 inBX6 rfl rfl (by decide) fl_X6_10 rfl rfl dX6_tryAsk_1 rfl ?_
  refine x_iload_n (pc' := 5) C dX6_tryAsk_4 rfl rfl rfl ?_
  refine x_catRV (st := []) (st2 := [.int (bI (f_X5_has N a1))]) (pc' := 8) (wcs := [wSt (kg k) (ad 0) adN N]) C (c_X5_has (kl k) (kg k) (ad 0) adN N a1) (by simp only [cat, List.append_nil]) cw_X6_57 ok_X5_has rfl (by decide) rfl rfl [1] rfl rfl rfl (Nat.le_of_ble_eq_true rfl) (Nat.zero_le _) (Nat.zero_le _) rfl dX6_tryAsk_5 rfl rfl ?_
  refine x_ifB_ne (tgt := 13) (pc' := 11) C dX6_tryAsk_8 (by decide) rfl (fun c1 => ?_) (fun c1 => ?_)
  · rw [if_pos c1] at hRES
    refine x_aload_n (pc' := 14) C dX6_tryAsk_13 rfl rfl rfl ?_
    refine x_get (pc' := 17) (v := .ref (ad 5)) C 0 5 inBX6 rfl rfl (by decide) fl_X6_32 rfl rfl dX6_tryAsk_14 rfl ?_
    refine x_aload_n (pc' := 18) C dX6_tryAsk_17 rfl rfl rfl ?_
    refine x_get (pc' := 21) (v := .ref (ad 0)) C 0 0 inBX6 rfl rfl (by decide) fl_X6_10 rfl rfl dX6_tryAsk_18 rfl ?_
    refine x_iload_n (pc' := 22) C dX6_tryAsk_21 rfl rfl rfl ?_
    obtain ⟨z2, ez2⟩ : ∃ z, z = (f_X2_spread E N a1) := ⟨_, rfl⟩
    replace hRES := bd hRES z2 ez2
    have hc := c_X2_spread (kl k) (kg k) (ad 5) adE E (ad 0) adN N a1
    rw [← ez2] at hc
    refine x_catWV (st := []) (st2 := []) (pc' := 25) (wcs := [wRe (kg k) (ad 5) adE E, wSt (kg k) (ad 0) adN N]) (wrs := [wMa h ad M]) (wcs' := [wRe (kg k) (ad 5) adE z2, wSt (kg k) (ad 0) adN N]) C B [wMa h ad M, wSt (kg k) (ad 0) adN N, wRe (kg k) (ad 5) adE z2] hc (by simp only [cat, List.append_nil]) (by simp only [cat, List.append_nil]) cw_X6_174 ok_X2_spread rfl (by decide) rfl rfl [0, 2, 1] [0, 2, 1] rfl rfl rfl rfl rfl (Nat.le_of_ble_eq_true rfl) (Nat.zero_le _) (Nat.zero_le _) rfl dX6_tryAsk_22 rfl rfl ?_
    refine x_aload_n (pc' := 26) C dX6_tryAsk_25 rfl rfl rfl ?_
    refine x_get (pc' := 29) (v := .ref (ad 5)) C 0 5 inBX6 rfl rfl (by decide) fl_X6_32 rfl rfl dX6_tryAsk_26 rfl ?_
    refine x_aload_n (pc' := 30) C dX6_tryAsk_29 rfl rfl rfl ?_
    refine x_get (pc' := 33) (v := .ref (ad 0)) C 0 0 inBX6 rfl rfl (by decide) fl_X6_10 rfl rfl dX6_tryAsk_30 rfl ?_
    refine x_catRV (st := []) (st2 := [.int (f_X2_rootReached z2 N)]) (pc' := 36) (wcs := [wRe (kg k) (ad 5) adE z2, wSt (kg k) (ad 0) adN N]) C (c_X2_rootReached (kl k) (kg k) (ad 5) adE z2 (ad 0) adN N) (by simp only [cat, List.append_nil]) cw_X6_178 ok_X2_rootReached rfl (by decide) rfl rfl [2, 1] rfl rfl rfl (Nat.le_of_ble_eq_true rfl) (Nat.zero_le _) (Nat.zero_le _) rfl dX6_tryAsk_33 rfl rfl ?_
    refine x_istore_n (pc' := 37) (L' := [some (.ref h), some (.int a1), some (.int (f_X2_rootReached z2 N)), none, none]) C dX6_tryAsk_36 rfl rfl (Nat.le_of_ble_eq_true rfl) rfl ?_
    refine x_aload_n (pc' := 38) C dX6_tryAsk_37 rfl rfl rfl ?_
    refine x_get (pc' := 41) (v := .ref (ad 5)) C 0 5 inBX6 rfl rfl (by decide) fl_X6_32 rfl rfl dX6_tryAsk_38 rfl ?_
    refine x_iload_n (pc' := 42) C dX6_tryAsk_41 rfl rfl rfl ?_
    refine x_catRV (st := []) (st2 := [.int (f_X2_stepsTo z2 (f_X2_rootReached z2 N))]) (pc' := 45) (wcs := [wRe (kg k) (ad 5) adE z2]) C (c_X2_stepsTo (kl k) (kg k) (ad 5) adE z2 (f_X2_rootReached z2 N)) (by simp only [cat, List.append_nil]) cw_X6_182 ok_X2_stepsTo rfl (by decide) rfl rfl [2] rfl rfl rfl (Nat.le_of_ble_eq_true rfl) (Nat.zero_le _) (Nat.zero_le _) rfl dX6_tryAsk_42 rfl rfl ?_
    refine x_istore_n (pc' := 46) (L' := [some (.ref h), some (.int a1), some (.int (f_X2_rootReached z2 N)), some (.int (f_X2_stepsTo z2 (f_X2_rootReached z2 N))), none]) C dX6_tryAsk_45 rfl rfl (Nat.le_of_ble_eq_true rfl) rfl ?_
    refine x_iconst (v := 1) (pc' := 47) C dX6_tryAsk_46 rfl (by decide) ?_
    refine x_aload_n (pc' := 48) C dX6_tryAsk_47 rfl rfl rfl ?_
    refine x_get (pc' := 51) (v := .ref (ad 5)) C 0 5 inBX6 rfl rfl (by decide) fl_X6_32 rfl rfl dX6_tryAsk_48 rfl ?_
    refine x_iload_n (pc' := 52) C dX6_tryAsk_51 rfl rfl rfl ?_
    refine x_catRV (st := [.int 1]) (st2 := [.int (f_X2_cellsTo z2 (f_X2_rootReached z2 N)), .int 1]) (pc' := 55) (wcs := [wRe (kg k) (ad 5) adE z2]) C (c_X2_cellsTo (kl k) (kg k) (ad 5) adE z2 (f_X2_rootReached z2 N)) (by simp only [cat, List.append_nil]) cw_X6_257 ok_X2_cellsTo rfl (by decide) rfl rfl [2] rfl rfl rfl (Nat.le_of_ble_eq_true rfl) (Nat.zero_le _) (Nat.zero_le _) rfl dX6_tryAsk_52 rfl rfl ?_
    refine x_iadd (pc' := 56) (v := (1 + (f_X2_cellsTo z2 (f_X2_rootReached z2 N)))) C dX6_tryAsk_55 rfl rfl ?_
    refine x_istore (pc' := 58) (L' := [some (.ref h), some (.int a1), some (.int (f_X2_rootReached z2 N)), some (.int (f_X2_stepsTo z2 (f_X2_rootReached z2 N))), some (.int (1 + (f_X2_cellsTo z2 (f_X2_rootReached z2 N))))]) C dX6_tryAsk_56 rfl (Nat.le_of_ble_eq_true rfl) rfl ?_
    refine x_aload_n (pc' := 59) C dX6_tryAsk_58 rfl rfl rfl ?_
    refine x_get (pc' := 62) (v := .ref (ad 0)) C 0 0 inBX6 rfl rfl (by decide) fl_X6_10 rfl rfl dX6_tryAsk_59 rfl ?_
    refine x_iload_n (pc' := 63) C dX6_tryAsk_62 rfl rfl rfl ?_
    refine x_iload (pc' := 65) C dX6_tryAsk_63 rfl rfl ?_
    obtain ⟨z3, ez3⟩ : ∃ z, z = (f_X5_noteAsking N a1 (1 + (f_X2_cellsTo z2 (f_X2_rootReached z2 N)))) := ⟨_, rfl⟩
    replace hRES := bd hRES z3 ez3
    have hc := c_X5_noteAsking (kl k) (kg k) (ad 0) adN N a1 (1 + (f_X2_cellsTo z2 (f_X2_rootReached z2 N)))
    rw [← ez3] at hc
    refine x_catWV (st := []) (st2 := []) (pc' := 68) (wcs := [wSt (kg k) (ad 0) adN N]) (wrs := [wMa h ad M, wRe (kg k) (ad 5) adE z2]) (wcs' := [wSt (kg k) (ad 0) adN z3]) C B [wMa h ad M, wSt (kg k) (ad 0) adN z3, wRe (kg k) (ad 5) adE z2] hc (by simp only [cat, List.append_nil]) (by simp only [cat, List.append_nil]) cw_X6_260 ok_X5_noteAsking rfl (by decide) rfl rfl [0, 2, 1] [0, 2, 1] rfl rfl rfl rfl rfl (Nat.le_of_ble_eq_true rfl) (Nat.zero_le _) (Nat.zero_le _) rfl dX6_tryAsk_65 rfl rfl ?_
    refine x_iload_n (pc' := 69) C dX6_tryAsk_68 rfl rfl rfl ?_
    refine x_aload_n (pc' := 70) C dX6_tryAsk_69 rfl rfl rfl ?_
    refine x_get (pc' := 73) (v := .ref (ad 0)) C 0 0 inBX6 rfl rfl (by decide) fl_X6_10 rfl rfl dX6_tryAsk_70 rfl ?_
    refine x_get (pc' := 76) (v := .int (z3.1 8)) C 1 8 inBX5 rfl rfl (by decide) fl_X6_107 rfl rfl dX6_tryAsk_73 rfl ?_
    refine x_icmp_le (tgt := 122) (pc' := 79) C dX6_tryAsk_76 (by decide) rfl (fun c4 => ?_) (fun c4 => ?_)
    · rw [if_neg c4] at hRES
      refine x_iload_n (pc' := 123) C dX6_tryAsk_122 rfl rfl rfl ?_
      refine x_iload_n (pc' := 124) C dX6_tryAsk_123 rfl rfl rfl ?_
      refine x_icmp_eq (tgt := 158) (pc' := 127) C dX6_tryAsk_124 (by decide) rfl (fun c5 => ?_) (fun c5 => ?_)
      · rw [if_pos c5] at hRES
        refine x_iload (pc' := 160) C dX6_tryAsk_158 rfl rfl ?_
        exact x_iret C (Nat.zero_le _) (Nat.zero_le _) dX6_tryAsk_160 ⟨by rw [hRES], by rw [hRES]⟩
      · rw [if_neg c5] at hRES
        refine x_aload_n (pc' := 128) C dX6_tryAsk_127 rfl rfl rfl ?_
        refine x_iload_n (pc' := 129) C dX6_tryAsk_128 rfl rfl rfl ?_
        refine x_iload_n (pc' := 130) C dX6_tryAsk_129 rfl rfl rfl ?_
        refine x_catRV (st := []) (st2 := [.int (bI (f_X6_rulePrefers M z3 a1 (f_X2_rootReached z2 N)))]) (pc' := 133) (wcs := [wMa h ad M, wSt (kg k) (ad 0) adN z3]) C (c_X6_rulePrefers (kl k) (kg k) h ad M adN z3 a1 (f_X2_rootReached z2 N)) rfl cw_X6_266 ok_X6_rulePrefers rfl (by decide) rfl rfl [0, 1] rfl rfl rfl (Nat.le_of_ble_eq_true rfl) (Nat.zero_le _) (Nat.zero_le _) rfl dX6_tryAsk_130 rfl rfl ?_
        refine x_ifB_eq (tgt := 158) (pc' := 136) C dX6_tryAsk_133 (by decide) rfl (fun c6 => ?_) (fun c6 => ?_)
        · rw [if_neg c6] at hRES
          refine x_iload (pc' := 160) C dX6_tryAsk_158 rfl rfl ?_
          exact x_iret C (Nat.zero_le _) (Nat.zero_le _) dX6_tryAsk_160 ⟨by rw [hRES], by rw [hRES]⟩
        · rw [if_pos c6] at hRES
          refine x_aload_n (pc' := 137) C dX6_tryAsk_136 rfl rfl rfl ?_
          refine x_get (pc' := 140) (v := .ref (ad 0)) C 0 0 inBX6 rfl rfl (by decide) fl_X6_10 rfl rfl dX6_tryAsk_137 rfl ?_
          refine x_iload_n (pc' := 141) C dX6_tryAsk_140 rfl rfl rfl ?_
          refine x_iload_n (pc' := 142) C dX6_tryAsk_141 rfl rfl rfl ?_
          obtain ⟨z7, ez7⟩ : ∃ z, z = (f_X5_moveRoot z3 (f_X2_rootReached z2 N) a1) := ⟨_, rfl⟩
          replace hRES := bd hRES z7 ez7
          have hc := c_X5_moveRoot (kl k) (kg k) (ad 0) adN z3 (f_X2_rootReached z2 N) a1
          rw [← ez7] at hc
          refine x_catWV (st := []) (st2 := []) (pc' := 145) (wcs := [wSt (kg k) (ad 0) adN z3]) (wrs := [wMa h ad M, wRe (kg k) (ad 5) adE z2]) (wcs' := [wSt (kg k) (ad 0) adN z7]) C B [wMa h ad M, wSt (kg k) (ad 0) adN z7, wRe (kg k) (ad 5) adE z2] hc (by simp only [cat, List.append_nil]) (by simp only [cat, List.append_nil]) cw_X6_269 ok_X5_moveRoot rfl (by decide) rfl rfl [0, 2, 1] [0, 2, 1] rfl rfl rfl rfl rfl (Nat.le_of_ble_eq_true rfl) (Nat.zero_le _) (Nat.zero_le _) rfl dX6_tryAsk_142 rfl rfl ?_
          refine x_aload_n (pc' := 146) C dX6_tryAsk_145 rfl rfl rfl ?_
          refine x_get (pc' := 149) (v := .ref (ad 0)) C 0 0 inBX6 rfl rfl (by decide) fl_X6_10 rfl rfl dX6_tryAsk_146 rfl ?_
          refine x_dup (pc' := 150) C dX6_tryAsk_149 rfl rfl ?_
          refine x_get (pc' := 153) (v := .int (z7.1 11)) C 1 11 inBX5 rfl rfl (by decide) fl_X6_232 rfl rfl dX6_tryAsk_150 rfl ?_
          refine x_iconst (v := 1) (pc' := 154) C dX6_tryAsk_153 rfl (by decide) ?_
          refine x_iadd (pc' := 155) (v := (z7.1 11 + 1)) C dX6_tryAsk_154 rfl rfl ?_
          obtain ⟨z8, ez8⟩ : ∃ z, z = (setI z7 11 (z7.1 11 + 1)) := ⟨_, rfl⟩
          replace hRES := bd hRES z8 ez8
          refine x_put (pc' := 158) (w' := cat [wMa h ad M, wSt (kg k) (ad 0) adN z8, wRe (kg k) (ad 5) adE z2]) (ty := .int) C B 1 11 inBX5 tyX5 tyX5_ok nmX5 rfl rfl (by decide) fl_X6_232 rfl rfl rfl rfl rfl (Nat.le_of_ble_eq_true rfl) dX6_tryAsk_155 rfl (by rw [ez8]; rfl) ?_
          refine x_iload (pc' := 160) C dX6_tryAsk_158 rfl rfl ?_
          exact x_iret C (Nat.zero_le _) (Nat.zero_le _) dX6_tryAsk_160 ⟨by rw [hRES], by rw [hRES]⟩
    · rw [if_pos c4] at hRES
      refine x_aload_n (pc' := 80) C dX6_tryAsk_79 rfl rfl rfl ?_
      refine x_get (pc' := 83) (v := .ref (ad 0)) C 0 0 inBX6 rfl rfl (by decide) fl_X6_10 rfl rfl dX6_tryAsk_80 rfl ?_
      refine x_iload_n (pc' := 84) C dX6_tryAsk_83 rfl rfl rfl ?_
      refine x_aload_n (pc' := 85) C dX6_tryAsk_84 rfl rfl rfl ?_
      refine x_get (pc' := 88) (v := .ref (ad 5)) C 0 5 inBX6 rfl rfl (by decide) fl_X6_32 rfl rfl dX6_tryAsk_85 rfl ?_
      refine x_iload_n (pc' := 89) C dX6_tryAsk_88 rfl rfl rfl ?_
      refine x_iload_n (pc' := 90) C dX6_tryAsk_89 rfl rfl rfl ?_
      refine x_iconst (v := 1) (pc' := 91) C dX6_tryAsk_90 rfl (by decide) ?_
      refine x_isub (pc' := 92) (v := ((f_X2_stepsTo z2 (f_X2_rootReached z2 N)) - 1)) C dX6_tryAsk_91 rfl rfl ?_
      obtain ⟨z9, ez9⟩ : ∃ z, z = (f_X2_towardsStart z2 (f_X2_rootReached z2 N) ((f_X2_stepsTo z2 (f_X2_rootReached z2 N)) - 1)) := ⟨_, rfl⟩
      replace hRES := bd hRES z9 ez9
      have hc := c_X2_towardsStart (kl k) (kg k) (ad 5) adE z2 (f_X2_rootReached z2 N) ((f_X2_stepsTo z2 (f_X2_rootReached z2 N)) - 1)
      rw [← ez9] at hc
      refine x_catRV (st := [.int a1, .ref (ad 0)]) (st2 := [.int z9, .int a1, .ref (ad 0)]) (pc' := 95) (wcs := [wRe (kg k) (ad 5) adE z2]) C hc (by simp only [cat, List.append_nil]) cw_X6_185 ok_X2_towardsStart rfl (by decide) rfl rfl [2] rfl rfl rfl (Nat.le_of_ble_eq_true rfl) (Nat.zero_le _) (Nat.zero_le _) rfl dX6_tryAsk_92 rfl rfl ?_
      obtain ⟨z10, ez10⟩ : ∃ z, z = (f_X5_cutBetween z3 a1 z9) := ⟨_, rfl⟩
      replace hRES := bd hRES z10 ez10
      have hc := c_X5_cutBetween (kl k) (kg k) (ad 0) adN z3 a1 z9
      rw [← ez10] at hc
      refine x_catWV (st := []) (st2 := []) (pc' := 98) (wcs := [wSt (kg k) (ad 0) adN z3]) (wrs := [wMa h ad M, wRe (kg k) (ad 5) adE z2]) (wcs' := [wSt (kg k) (ad 0) adN z10]) C B [wMa h ad M, wSt (kg k) (ad 0) adN z10, wRe (kg k) (ad 5) adE z2] hc (by simp only [cat, List.append_nil]) (by simp only [cat, List.append_nil]) cw_X6_263 ok_X5_cutBetween rfl (by decide) rfl rfl [0, 2, 1] [0, 2, 1] rfl rfl rfl rfl rfl (Nat.le_of_ble_eq_true rfl) (Nat.zero_le _) (Nat.zero_le _) rfl dX6_tryAsk_95 rfl rfl ?_
      refine x_aload_n (pc' := 99) C dX6_tryAsk_98 rfl rfl rfl ?_
      refine x_get (pc' := 102) (v := .ref (ad 0)) C 0 0 inBX6 rfl rfl (by decide) fl_X6_10 rfl rfl dX6_tryAsk_99 rfl ?_
      refine x_iload_n (pc' := 103) C dX6_tryAsk_102 rfl rfl rfl ?_
      obtain ⟨z11, ez11⟩ : ∃ z, z = (f_X5_addRoot z10 a1) := ⟨_, rfl⟩
      replace hRES := bd hRES z11 ez11
      have hc := c_X5_addRoot (kl k) (kg k) (ad 0) adN z10 a1
      rw [← ez11] at hc
      refine x_catWV (st := []) (st2 := []) (pc' := 106) (wcs := [wSt (kg k) (ad 0) adN z10]) (wrs := [wMa h ad M, wRe (kg k) (ad 5) adE z2]) (wcs' := [wSt (kg k) (ad 0) adN z11]) C B [wMa h ad M, wSt (kg k) (ad 0) adN z11, wRe (kg k) (ad 5) adE z2] hc (by simp only [cat, List.append_nil]) (by simp only [cat, List.append_nil]) cw_X6_73 ok_X5_addRoot rfl (by decide) rfl rfl [0, 2, 1] [0, 2, 1] rfl rfl rfl rfl rfl (Nat.le_of_ble_eq_true rfl) (Nat.zero_le _) (Nat.zero_le _) rfl dX6_tryAsk_103 rfl rfl ?_
      refine x_aload_n (pc' := 107) C dX6_tryAsk_106 rfl rfl rfl ?_
      refine x_get (pc' := 110) (v := .ref (ad 0)) C 0 0 inBX6 rfl rfl (by decide) fl_X6_10 rfl rfl dX6_tryAsk_107 rfl ?_
      refine x_dup (pc' := 111) C dX6_tryAsk_110 rfl rfl ?_
      refine x_get (pc' := 114) (v := .int (z11.1 12)) C 1 12 inBX5 rfl rfl (by decide) fl_X6_235 rfl rfl dX6_tryAsk_111 rfl ?_
      refine x_iconst (v := 1) (pc' := 115) C dX6_tryAsk_114 rfl (by decide) ?_
      refine x_iadd (pc' := 116) (v := (z11.1 12 + 1)) C dX6_tryAsk_115 rfl rfl ?_
      obtain ⟨z12, ez12⟩ : ∃ z, z = (setI z11 12 (z11.1 12 + 1)) := ⟨_, rfl⟩
      replace hRES := bd hRES z12 ez12
      refine x_put (pc' := 119) (w' := cat [wMa h ad M, wSt (kg k) (ad 0) adN z12, wRe (kg k) (ad 5) adE z2]) (ty := .int) C B 1 12 inBX5 tyX5 tyX5_ok nmX5 rfl rfl (by decide) fl_X6_235 rfl rfl rfl rfl rfl (Nat.le_of_ble_eq_true rfl) dX6_tryAsk_116 rfl (by rw [ez12]; rfl) ?_
      refine x_goto (tgt := 158) C dX6_tryAsk_119 (by decide) ?_
      refine x_iload (pc' := 160) C dX6_tryAsk_158 rfl rfl ?_
      exact x_iret C (Nat.zero_le _) (Nat.zero_le _) dX6_tryAsk_160 ⟨by rw [hRES], by rw [hRES]⟩
  · rw [if_neg c1] at hRES
    refine x_iconst (v := (-1)) (pc' := 12) C dX6_tryAsk_11 rfl (by decide) ?_
    exact x_iret C (Nat.zero_le _) (Nat.zero_le _) dX6_tryAsk_12 ⟨by rw [hRES], by rw [hRES]⟩

def f_X6_ask (M : CS) (N : CS) (F : CS) (Q : HS) (E : CS) (a1 : Int32) : Int32 × CS × CS × HS × CS := (bind1 (f_X6_beginAct M N F) (fun z1 => (bind1 (f_X6_tryAsk M N E a1) (fun z2 => (bind1 (f_X6_endAct M z1 Q z2.1) (fun z4 => (z4.1, z2.2.1, z1, z4.2, z2.2.2)))))))
def o_X6_ask (M : CS) (N : CS) (F : CS) (Q : HS) (E : CS) (a1 : Int32) : Prop := (bind1 (f_X6_beginAct M N F) (fun z1 => (bind1 (f_X6_tryAsk M N E a1) (fun z2 => ((o_X6_endAct M z1 Q z2.1) ∧ (bind1 (f_X6_endAct M z1 Q z2.1) (fun z4 => True)))))))
set_option maxRecDepth 100000 in
set_option maxHeartbeats 8000000 in
theorem c_X6_ask (l : Launch) (g : GT) (h : Nat) (ad : Nat → Nat) (M : CS) (adN : Nat → Nat) (N : CS) (adF : Nat → Nat) (F : CS) (adQ : Nat → Nat) (Q : HS) (adE : Nat → Nat) (E : CS) (a1 : Int32) (hok : o_X6_ask M N F Q E a1) : CW l yX6_ask (.code yX6_ask cX6_ask 2 (some .int)) 5 g [.ref h, .int a1] (cat [wMa h ad M, wSt g (ad 0) adN N, wSt g (ad 1) adF F, wHi g (ad 4) adQ Q, wRe g (ad 5) adE E]) (some (.int (f_X6_ask M N F Q E a1).1)) (cat [wMa h ad M, wSt g (ad 0) adN (f_X6_ask M N F Q E a1).2.1, wSt g (ad 1) adF (f_X6_ask M N F Q E a1).2.2.1, wHi g (ad 4) adQ (f_X6_ask M N F Q E a1).2.2.2.1, wRe g (ad 5) adE (f_X6_ask M N F Q E a1).2.2.2.2]) := by
  obtain ⟨RES, hRES⟩ : ∃ z, z = (f_X6_ask M N F Q E a1) := ⟨_, rfl⟩
  rw [← hRES]
  unfold f_X6_ask at hRES
  unfold o_X6_ask at hok
  refine CWx.of (nL := 2) (ret := (some .int)) (own := RX6) (cc := cX6_ask) rfl (by decide) rfl (List.forall_mem_cons.mpr ⟨rfl, (List.forall_mem_cons.mpr ⟨rfl, (fun _ h => absurd h List.not_mem_nil)⟩)⟩) (Nat.le_of_ble_eq_true rfl) ?_
  intro k C B hin hkl hkg
  subst hkl; subst hkg
  refine x_loc2 (L' := [some (.ref h), some (.int a1)]) rfl ?_
  refine x_aload_n (pc' := 1) C dX6_ask_0 rfl rfl rfl ?_
  obtain ⟨z1, ez1⟩ : ∃ z, z = (f_X6_beginAct M N F) := ⟨_, rfl⟩
  replace hRES := bd hRES z1 ez1
  replace hok := bdP hok z1 ez1
  have hc := c_X6_beginAct (kl k) (kg k) h ad M adN N adF F
  rw [← ez1] at hc
  refine x_catWV (st := []) (st2 := []) (pc' := 4) (wcs := [wMa h ad M, wSt (kg k) (ad 0) adN N, wSt (kg k) (ad 1) adF F]) (wrs := [wHi (kg k) (ad 4) adQ Q, wRe (kg k) (ad 5) adE E]) (wcs' := [wMa h ad M, wSt (kg k) (ad 0) adN N, wSt (kg k) (ad 1) adF z1]) C B [wMa h ad M, wSt (kg k) (ad 0) adN N, wSt (kg k) (ad 1) adF z1, wHi (kg k) (ad 4) adQ Q, wRe (kg k) (ad 5) adE E] hc rfl rfl cw_X6_43 ok_X6_beginAct rfl (by decide) rfl rfl [3, 4, 0, 1, 2] [2, 3, 4, 0, 1] rfl rfl rfl rfl rfl (Nat.le_of_ble_eq_true rfl) (Nat.zero_le _) (Nat.zero_le _) rfl dX6_ask_1 rfl rfl ?_
  refine x_aload_n (pc' := 5) C dX6_ask_4 rfl rfl rfl ?_
  refine x_aload_n (pc' := 6) C dX6_ask_5 rfl rfl rfl ?_
  refine x_iload_n (pc' := 7) C dX6_ask_6 rfl rfl rfl ?_
  obtain ⟨z2, ez2⟩ : ∃ z, z = (f_X6_tryAsk M N E a1) := ⟨_, rfl⟩
  replace hRES := bd hRES z2 ez2
  replace hok := bdP hok z2 ez2
  have hc := c_X6_tryAsk (kl k) (kg k) h ad M adN N adE E a1
  rw [← ez2] at hc
  refine x_catWV (st := [.ref h]) (st2 := [.int z2.1, .ref h]) (pc' := 10) (wcs := [wMa h ad M, wSt (kg k) (ad 0) adN N, wRe (kg k) (ad 5) adE E]) (wrs := [wSt (kg k) (ad 1) adF z1, wHi (kg k) (ad 4) adQ Q]) (wcs' := [wMa h ad M, wSt (kg k) (ad 0) adN z2.2.1, wRe (kg k) (ad 5) adE z2.2.2]) C B [wMa h ad M, wSt (kg k) (ad 0) adN z2.2.1, wSt (kg k) (ad 1) adF z1, wHi (kg k) (ad 4) adQ Q, wRe (kg k) (ad 5) adE z2.2.2] hc rfl rfl cw_X6_84 ok_X6_tryAsk rfl (by decide) rfl rfl [2, 3, 0, 1, 4] [2, 3, 0, 1, 4] rfl rfl rfl rfl rfl (Nat.le_of_ble_eq_true rfl) (Nat.zero_le _) (Nat.zero_le _) rfl dX6_ask_7 rfl rfl ?_
  obtain ⟨hn3, hok⟩ := hok
  obtain ⟨z4, ez4⟩ : ∃ z, z = (f_X6_endAct M z1 Q z2.1) := ⟨_, rfl⟩
  replace hRES := bd hRES z4 ez4
  replace hok := bdP hok z4 ez4
  have hc := c_X6_endAct (kl k) (kg k) h ad M adF z1 adQ Q z2.1 hn3
  rw [← ez4] at hc
  refine x_catWV (st := []) (st2 := [.int z4.1]) (pc' := 13) (wcs := [wMa h ad M, wSt (kg k) (ad 1) adF z1, wHi (kg k) (ad 4) adQ Q]) (wrs := [wSt (kg k) (ad 0) adN z2.2.1, wRe (kg k) (ad 5) adE z2.2.2]) (wcs' := [wMa h ad M, wSt (kg k) (ad 1) adF z1, wHi (kg k) (ad 4) adQ z4.2]) C B [wMa h ad M, wSt (kg k) (ad 0) adN z2.2.1, wSt (kg k) (ad 1) adF z1, wHi (kg k) (ad 4) adQ z4.2, wRe (kg k) (ad 5) adE z2.2.2] hc rfl rfl cw_X6_50 ok_X6_endAct rfl (by decide) rfl rfl [1, 4, 0, 2, 3] [2, 0, 3, 4, 1] rfl rfl rfl rfl rfl (Nat.le_of_ble_eq_true rfl) (Nat.zero_le _) (Nat.zero_le _) rfl dX6_ask_10 rfl rfl ?_
  exact x_iret C (Nat.zero_le _) (Nat.zero_le _) dX6_ask_13 ⟨by rw [hRES], by rw [hRES]⟩

def f_X6_tryRoot (M : CS) (N : CS) (E : CS) (a1 : Int32) : Int32 × CS × CS := (if (f_X5_has N a1) = true then (if (f_X5_isRoot N a1) = true then ((-5), N, E) else (bind1 (f_X2_spread E N a1) (fun z3 => (bind1 (f_X5_moveRoot N (f_X2_rootReached z3 N) a1) (fun z4 => ((f_X2_stepsTo z3 (f_X2_rootReached z3 N)), z4, z3)))))) else ((-1), N, E))
set_option maxRecDepth 100000 in
set_option maxHeartbeats 8000000 in
theorem c_X6_tryRoot (l : Launch) (g : GT) (h : Nat) (ad : Nat → Nat) (M : CS) (adN : Nat → Nat) (N : CS) (adE : Nat → Nat) (E : CS) (a1 : Int32) : CW l yX6_tryRoot (.code yX6_tryRoot cX6_tryRoot 3 (some .int)) 4 g [.ref h, .int a1] (cat [wMa h ad M, wSt g (ad 0) adN N, wRe g (ad 5) adE E]) (some (.int (f_X6_tryRoot M N E a1).1)) (cat [wMa h ad M, wSt g (ad 0) adN (f_X6_tryRoot M N E a1).2.1, wRe g (ad 5) adE (f_X6_tryRoot M N E a1).2.2]) := by
  obtain ⟨RES, hRES⟩ : ∃ z, z = (f_X6_tryRoot M N E a1) := ⟨_, rfl⟩
  rw [← hRES]
  unfold f_X6_tryRoot at hRES
  refine CWx.of (nL := 3) (ret := (some .int)) (own := RX6) (cc := cX6_tryRoot) rfl (by decide) rfl (List.forall_mem_cons.mpr ⟨rfl, (List.forall_mem_cons.mpr ⟨rfl, (fun _ h => absurd h List.not_mem_nil)⟩)⟩) (Nat.le_of_ble_eq_true rfl) ?_
  intro k C B hin hkl hkg
  subst hkl; subst hkg
  refine x_loc2 (L' := [some (.ref h), some (.int a1), none]) rfl ?_
  refine x_aload_n (pc' := 1) C dX6_tryRoot_0 rfl rfl rfl ?_
  refine x_get (pc' := 4) (v := .ref (ad 0)) C 0 0 inBX6 rfl rfl (by decide) fl_X6_10 rfl rfl dX6_tryRoot_1 rfl ?_
  refine x_iload_n (pc' := 5) C dX6_tryRoot_4 rfl rfl rfl ?_
  refine x_catRV (st := []) (st2 := [.int (bI (f_X5_has N a1))]) (pc' := 8) (wcs := [wSt (kg k) (ad 0) adN N]) C (c_X5_has (kl k) (kg k) (ad 0) adN N a1) (by simp only [cat, List.append_nil]) cw_X6_57 ok_X5_has rfl (by decide) rfl rfl [1] rfl rfl rfl (Nat.le_of_ble_eq_true rfl) (Nat.zero_le _) (Nat.zero_le _) rfl dX6_tryRoot_5 rfl rfl ?_
  refine x_ifB_ne (tgt := 13) (pc' := 11) C dX6_tryRoot_8 (by decide) rfl (fun c1 => ?_) (fun c1 => ?_)
  · rw [if_pos c1] at hRES
    refine x_aload_n (pc' := 14) C dX6_tryRoot_13 rfl rfl rfl ?_
    refine x_get (pc' := 17) (v := .ref (ad 0)) C 0 0 inBX6 rfl rfl (by decide) fl_X6_10 rfl rfl dX6_tryRoot_14 rfl ?_
    refine x_iload_n (pc' := 18) C dX6_tryRoot_17 rfl rfl rfl ?_
    refine x_catRV (st := []) (st2 := [.int (bI (f_X5_isRoot N a1))]) (pc' := 21) (wcs := [wSt (kg k) (ad 0) adN N]) C (c_X5_isRoot (kl k) (kg k) (ad 0) adN N a1) (by simp only [cat, List.append_nil]) cw_X6_64 ok_X5_isRoot rfl (by decide) rfl rfl [1] rfl rfl rfl (Nat.le_of_ble_eq_true rfl) (Nat.zero_le _) (Nat.zero_le _) rfl dX6_tryRoot_18 rfl rfl ?_
    refine x_ifB_eq (tgt := 27) (pc' := 24) C dX6_tryRoot_21 (by decide) rfl (fun c2 => ?_) (fun c2 => ?_)
    · rw [if_neg c2] at hRES
      refine x_aload_n (pc' := 28) C dX6_tryRoot_27 rfl rfl rfl ?_
      refine x_get (pc' := 31) (v := .ref (ad 5)) C 0 5 inBX6 rfl rfl (by decide) fl_X6_32 rfl rfl dX6_tryRoot_28 rfl ?_
      refine x_aload_n (pc' := 32) C dX6_tryRoot_31 rfl rfl rfl ?_
      refine x_get (pc' := 35) (v := .ref (ad 0)) C 0 0 inBX6 rfl rfl (by decide) fl_X6_10 rfl rfl dX6_tryRoot_32 rfl ?_
      refine x_iload_n (pc' := 36) C dX6_tryRoot_35 rfl rfl rfl ?_
      obtain ⟨z3, ez3⟩ : ∃ z, z = (f_X2_spread E N a1) := ⟨_, rfl⟩
      replace hRES := bd hRES z3 ez3
      have hc := c_X2_spread (kl k) (kg k) (ad 5) adE E (ad 0) adN N a1
      rw [← ez3] at hc
      refine x_catWV (st := []) (st2 := []) (pc' := 39) (wcs := [wRe (kg k) (ad 5) adE E, wSt (kg k) (ad 0) adN N]) (wrs := [wMa h ad M]) (wcs' := [wRe (kg k) (ad 5) adE z3, wSt (kg k) (ad 0) adN N]) C B [wMa h ad M, wSt (kg k) (ad 0) adN N, wRe (kg k) (ad 5) adE z3] hc (by simp only [cat, List.append_nil]) (by simp only [cat, List.append_nil]) cw_X6_174 ok_X2_spread rfl (by decide) rfl rfl [0, 2, 1] [0, 2, 1] rfl rfl rfl rfl rfl (Nat.le_of_ble_eq_true rfl) (Nat.zero_le _) (Nat.zero_le _) rfl dX6_tryRoot_36 rfl rfl ?_
      refine x_aload_n (pc' := 40) C dX6_tryRoot_39 rfl rfl rfl ?_
      refine x_get (pc' := 43) (v := .ref (ad 5)) C 0 5 inBX6 rfl rfl (by decide) fl_X6_32 rfl rfl dX6_tryRoot_40 rfl ?_
      refine x_aload_n (pc' := 44) C dX6_tryRoot_43 rfl rfl rfl ?_
      refine x_get (pc' := 47) (v := .ref (ad 0)) C 0 0 inBX6 rfl rfl (by decide) fl_X6_10 rfl rfl dX6_tryRoot_44 rfl ?_
      refine x_catRV (st := []) (st2 := [.int (f_X2_rootReached z3 N)]) (pc' := 50) (wcs := [wRe (kg k) (ad 5) adE z3, wSt (kg k) (ad 0) adN N]) C (c_X2_rootReached (kl k) (kg k) (ad 5) adE z3 (ad 0) adN N) (by simp only [cat, List.append_nil]) cw_X6_178 ok_X2_rootReached rfl (by decide) rfl rfl [2, 1] rfl rfl rfl (Nat.le_of_ble_eq_true rfl) (Nat.zero_le _) (Nat.zero_le _) rfl dX6_tryRoot_47 rfl rfl ?_
      refine x_istore_n (pc' := 51) (L' := [some (.ref h), some (.int a1), some (.int (f_X2_rootReached z3 N))]) C dX6_tryRoot_50 rfl rfl (Nat.le_of_ble_eq_true rfl) rfl ?_
      refine x_aload_n (pc' := 52) C dX6_tryRoot_51 rfl rfl rfl ?_
      refine x_get (pc' := 55) (v := .ref (ad 0)) C 0 0 inBX6 rfl rfl (by decide) fl_X6_10 rfl rfl dX6_tryRoot_52 rfl ?_
      refine x_iload_n (pc' := 56) C dX6_tryRoot_55 rfl rfl rfl ?_
      refine x_iload_n (pc' := 57) C dX6_tryRoot_56 rfl rfl rfl ?_
      obtain ⟨z4, ez4⟩ : ∃ z, z = (f_X5_moveRoot N (f_X2_rootReached z3 N) a1) := ⟨_, rfl⟩
      replace hRES := bd hRES z4 ez4
      have hc := c_X5_moveRoot (kl k) (kg k) (ad 0) adN N (f_X2_rootReached z3 N) a1
      rw [← ez4] at hc
      refine x_catWV (st := []) (st2 := []) (pc' := 60) (wcs := [wSt (kg k) (ad 0) adN N]) (wrs := [wMa h ad M, wRe (kg k) (ad 5) adE z3]) (wcs' := [wSt (kg k) (ad 0) adN z4]) C B [wMa h ad M, wSt (kg k) (ad 0) adN z4, wRe (kg k) (ad 5) adE z3] hc (by simp only [cat, List.append_nil]) (by simp only [cat, List.append_nil]) cw_X6_269 ok_X5_moveRoot rfl (by decide) rfl rfl [0, 2, 1] [0, 2, 1] rfl rfl rfl rfl rfl (Nat.le_of_ble_eq_true rfl) (Nat.zero_le _) (Nat.zero_le _) rfl dX6_tryRoot_57 rfl rfl ?_
      refine x_aload_n (pc' := 61) C dX6_tryRoot_60 rfl rfl rfl ?_
      refine x_get (pc' := 64) (v := .ref (ad 5)) C 0 5 inBX6 rfl rfl (by decide) fl_X6_32 rfl rfl dX6_tryRoot_61 rfl ?_
      refine x_iload_n (pc' := 65) C dX6_tryRoot_64 rfl rfl rfl ?_
      refine x_catRV (st := []) (st2 := [.int (f_X2_stepsTo z3 (f_X2_rootReached z3 N))]) (pc' := 68) (wcs := [wRe (kg k) (ad 5) adE z3]) C (c_X2_stepsTo (kl k) (kg k) (ad 5) adE z3 (f_X2_rootReached z3 N)) (by simp only [cat, List.append_nil]) cw_X6_182 ok_X2_stepsTo rfl (by decide) rfl rfl [2] rfl rfl rfl (Nat.le_of_ble_eq_true rfl) (Nat.zero_le _) (Nat.zero_le _) rfl dX6_tryRoot_65 rfl rfl ?_
      exact x_iret C (Nat.zero_le _) (Nat.zero_le _) dX6_tryRoot_68 ⟨by rw [hRES], by rw [hRES]⟩
    · rw [if_pos c2] at hRES
      refine x_bipush (v := (-5)) (pc' := 26) C dX6_tryRoot_24 rfl (by decide) ?_
      exact x_iret C (Nat.zero_le _) (Nat.zero_le _) dX6_tryRoot_26 ⟨by rw [hRES], by rw [hRES]⟩
  · rw [if_neg c1] at hRES
    refine x_iconst (v := (-1)) (pc' := 12) C dX6_tryRoot_11 rfl (by decide) ?_
    exact x_iret C (Nat.zero_le _) (Nat.zero_le _) dX6_tryRoot_12 ⟨by rw [hRES], by rw [hRES]⟩

def f_X6_root (M : CS) (N : CS) (F : CS) (Q : HS) (E : CS) (a1 : Int32) : Int32 × CS × CS × HS × CS := (bind1 (f_X6_beginAct M N F) (fun z1 => (bind1 (f_X6_tryRoot M N E a1) (fun z2 => (bind1 (f_X6_endAct M z1 Q z2.1) (fun z4 => (z4.1, z2.2.1, z1, z4.2, z2.2.2)))))))
def o_X6_root (M : CS) (N : CS) (F : CS) (Q : HS) (E : CS) (a1 : Int32) : Prop := (bind1 (f_X6_beginAct M N F) (fun z1 => (bind1 (f_X6_tryRoot M N E a1) (fun z2 => ((o_X6_endAct M z1 Q z2.1) ∧ (bind1 (f_X6_endAct M z1 Q z2.1) (fun z4 => True)))))))
set_option maxRecDepth 100000 in
set_option maxHeartbeats 8000000 in
theorem c_X6_root (l : Launch) (g : GT) (h : Nat) (ad : Nat → Nat) (M : CS) (adN : Nat → Nat) (N : CS) (adF : Nat → Nat) (F : CS) (adQ : Nat → Nat) (Q : HS) (adE : Nat → Nat) (E : CS) (a1 : Int32) (hok : o_X6_root M N F Q E a1) : CW l yX6_root (.code yX6_root cX6_root 2 (some .int)) 5 g [.ref h, .int a1] (cat [wMa h ad M, wSt g (ad 0) adN N, wSt g (ad 1) adF F, wHi g (ad 4) adQ Q, wRe g (ad 5) adE E]) (some (.int (f_X6_root M N F Q E a1).1)) (cat [wMa h ad M, wSt g (ad 0) adN (f_X6_root M N F Q E a1).2.1, wSt g (ad 1) adF (f_X6_root M N F Q E a1).2.2.1, wHi g (ad 4) adQ (f_X6_root M N F Q E a1).2.2.2.1, wRe g (ad 5) adE (f_X6_root M N F Q E a1).2.2.2.2]) := by
  obtain ⟨RES, hRES⟩ : ∃ z, z = (f_X6_root M N F Q E a1) := ⟨_, rfl⟩
  rw [← hRES]
  unfold f_X6_root at hRES
  unfold o_X6_root at hok
  refine CWx.of (nL := 2) (ret := (some .int)) (own := RX6) (cc := cX6_root) rfl (by decide) rfl (List.forall_mem_cons.mpr ⟨rfl, (List.forall_mem_cons.mpr ⟨rfl, (fun _ h => absurd h List.not_mem_nil)⟩)⟩) (Nat.le_of_ble_eq_true rfl) ?_
  intro k C B hin hkl hkg
  subst hkl; subst hkg
  refine x_loc2 (L' := [some (.ref h), some (.int a1)]) rfl ?_
  refine x_aload_n (pc' := 1) C dX6_root_0 rfl rfl rfl ?_
  obtain ⟨z1, ez1⟩ : ∃ z, z = (f_X6_beginAct M N F) := ⟨_, rfl⟩
  replace hRES := bd hRES z1 ez1
  replace hok := bdP hok z1 ez1
  have hc := c_X6_beginAct (kl k) (kg k) h ad M adN N adF F
  rw [← ez1] at hc
  refine x_catWV (st := []) (st2 := []) (pc' := 4) (wcs := [wMa h ad M, wSt (kg k) (ad 0) adN N, wSt (kg k) (ad 1) adF F]) (wrs := [wHi (kg k) (ad 4) adQ Q, wRe (kg k) (ad 5) adE E]) (wcs' := [wMa h ad M, wSt (kg k) (ad 0) adN N, wSt (kg k) (ad 1) adF z1]) C B [wMa h ad M, wSt (kg k) (ad 0) adN N, wSt (kg k) (ad 1) adF z1, wHi (kg k) (ad 4) adQ Q, wRe (kg k) (ad 5) adE E] hc rfl rfl cw_X6_43 ok_X6_beginAct rfl (by decide) rfl rfl [3, 4, 0, 1, 2] [2, 3, 4, 0, 1] rfl rfl rfl rfl rfl (Nat.le_of_ble_eq_true rfl) (Nat.zero_le _) (Nat.zero_le _) rfl dX6_root_1 rfl rfl ?_
  refine x_aload_n (pc' := 5) C dX6_root_4 rfl rfl rfl ?_
  refine x_aload_n (pc' := 6) C dX6_root_5 rfl rfl rfl ?_
  refine x_iload_n (pc' := 7) C dX6_root_6 rfl rfl rfl ?_
  obtain ⟨z2, ez2⟩ : ∃ z, z = (f_X6_tryRoot M N E a1) := ⟨_, rfl⟩
  replace hRES := bd hRES z2 ez2
  replace hok := bdP hok z2 ez2
  have hc := c_X6_tryRoot (kl k) (kg k) h ad M adN N adE E a1
  rw [← ez2] at hc
  refine x_catWV (st := [.ref h]) (st2 := [.int z2.1, .ref h]) (pc' := 10) (wcs := [wMa h ad M, wSt (kg k) (ad 0) adN N, wRe (kg k) (ad 5) adE E]) (wrs := [wSt (kg k) (ad 1) adF z1, wHi (kg k) (ad 4) adQ Q]) (wcs' := [wMa h ad M, wSt (kg k) (ad 0) adN z2.2.1, wRe (kg k) (ad 5) adE z2.2.2]) C B [wMa h ad M, wSt (kg k) (ad 0) adN z2.2.1, wSt (kg k) (ad 1) adF z1, wHi (kg k) (ad 4) adQ Q, wRe (kg k) (ad 5) adE z2.2.2] hc rfl rfl cw_X6_87 ok_X6_tryRoot rfl (by decide) rfl rfl [2, 3, 0, 1, 4] [2, 3, 0, 1, 4] rfl rfl rfl rfl rfl (Nat.le_of_ble_eq_true rfl) (Nat.zero_le _) (Nat.zero_le _) rfl dX6_root_7 rfl rfl ?_
  obtain ⟨hn3, hok⟩ := hok
  obtain ⟨z4, ez4⟩ : ∃ z, z = (f_X6_endAct M z1 Q z2.1) := ⟨_, rfl⟩
  replace hRES := bd hRES z4 ez4
  replace hok := bdP hok z4 ez4
  have hc := c_X6_endAct (kl k) (kg k) h ad M adF z1 adQ Q z2.1 hn3
  rw [← ez4] at hc
  refine x_catWV (st := []) (st2 := [.int z4.1]) (pc' := 13) (wcs := [wMa h ad M, wSt (kg k) (ad 1) adF z1, wHi (kg k) (ad 4) adQ Q]) (wrs := [wSt (kg k) (ad 0) adN z2.2.1, wRe (kg k) (ad 5) adE z2.2.2]) (wcs' := [wMa h ad M, wSt (kg k) (ad 1) adF z1, wHi (kg k) (ad 4) adQ z4.2]) C B [wMa h ad M, wSt (kg k) (ad 0) adN z2.2.1, wSt (kg k) (ad 1) adF z1, wHi (kg k) (ad 4) adQ z4.2, wRe (kg k) (ad 5) adE z2.2.2] hc rfl rfl cw_X6_50 ok_X6_endAct rfl (by decide) rfl rfl [1, 4, 0, 2, 3] [2, 0, 3, 4, 1] rfl rfl rfl rfl rfl (Nat.le_of_ble_eq_true rfl) (Nat.zero_le _) (Nat.zero_le _) rfl dX6_root_10 rfl rfl ?_
  exact x_iret C (Nat.zero_le _) (Nat.zero_le _) dX6_root_13 ⟨by rw [hRES], by rw [hRES]⟩

def f_X6_giveRoot (M : CS) (N : CS) (E : CS) (a1 : Int32) (a2 : Int32) : CS × CS := (bind1 (f_X2_spread E N a1) (fun z1 => (if (z1.1 0 &&& N.1 2) = 0 then (bind1 (f_X5_addRoot N a1) (fun z4 => (z4, z1))) else (bind1 (f_X5_addRoot N a2) (fun z6 => (z6, z1))))))
set_option maxRecDepth 100000 in
set_option maxHeartbeats 8000000 in
theorem c_X6_giveRoot (l : Launch) (g : GT) (h : Nat) (ad : Nat → Nat) (M : CS) (adN : Nat → Nat) (N : CS) (adE : Nat → Nat) (E : CS) (a1 : Int32) (a2 : Int32) : CW l yX6_giveRoot (.code yX6_giveRoot cX6_giveRoot 4 none) 4 g [.ref h, .int a1, .int a2] (cat [wMa h ad M, wSt g (ad 0) adN N, wRe g (ad 5) adE E]) none (cat [wMa h ad M, wSt g (ad 0) adN (f_X6_giveRoot M N E a1 a2).1, wRe g (ad 5) adE (f_X6_giveRoot M N E a1 a2).2]) := by
  obtain ⟨RES, hRES⟩ : ∃ z, z = (f_X6_giveRoot M N E a1 a2) := ⟨_, rfl⟩
  rw [← hRES]
  unfold f_X6_giveRoot at hRES
  refine CWx.of (nL := 4) (ret := none) (own := RX6) (cc := cX6_giveRoot) rfl (by decide) rfl (List.forall_mem_cons.mpr ⟨rfl, (List.forall_mem_cons.mpr ⟨rfl, (List.forall_mem_cons.mpr ⟨rfl, (fun _ h => absurd h List.not_mem_nil)⟩)⟩)⟩) (Nat.le_of_ble_eq_true rfl) ?_
  intro k C B hin hkl hkg
  subst hkl; subst hkg
  refine x_loc2 (L' := [some (.ref h), some (.int a1), some (.int a2), none]) rfl ?_
  refine x_aload_n (pc' := 1) C dX6_giveRoot_0 rfl rfl rfl ?_
  refine x_get (pc' := 4) (v := .ref (ad 5)) C 0 5 inBX6 rfl rfl (by decide) fl_X6_32 rfl rfl dX6_giveRoot_1 rfl ?_
  refine x_aload_n (pc' := 5) C dX6_giveRoot_4 rfl rfl rfl ?_
  refine x_get (pc' := 8) (v := .ref (ad 0)) C 0 0 inBX6 rfl rfl (by decide) fl_X6_10 rfl rfl dX6_giveRoot_5 rfl ?_
  refine x_iload_n (pc' := 9) C dX6_giveRoot_8 rfl rfl rfl ?_
  obtain ⟨z1, ez1⟩ : ∃ z, z = (f_X2_spread E N a1) := ⟨_, rfl⟩
  replace hRES := bd hRES z1 ez1
  have hc := c_X2_spread (kl k) (kg k) (ad 5) adE E (ad 0) adN N a1
  rw [← ez1] at hc
  refine x_catWV (st := []) (st2 := []) (pc' := 12) (wcs := [wRe (kg k) (ad 5) adE E, wSt (kg k) (ad 0) adN N]) (wrs := [wMa h ad M]) (wcs' := [wRe (kg k) (ad 5) adE z1, wSt (kg k) (ad 0) adN N]) C B [wMa h ad M, wSt (kg k) (ad 0) adN N, wRe (kg k) (ad 5) adE z1] hc (by simp only [cat, List.append_nil]) (by simp only [cat, List.append_nil]) cw_X6_174 ok_X2_spread rfl (by decide) rfl rfl [0, 2, 1] [0, 2, 1] rfl rfl rfl rfl rfl (Nat.le_of_ble_eq_true rfl) (Nat.zero_le _) (Nat.zero_le _) rfl dX6_giveRoot_9 rfl rfl ?_
  refine x_aload_n (pc' := 13) C dX6_giveRoot_12 rfl rfl rfl ?_
  refine x_get (pc' := 16) (v := .ref (ad 5)) C 0 5 inBX6 rfl rfl (by decide) fl_X6_32 rfl rfl dX6_giveRoot_13 rfl ?_
  refine x_get (pc' := 19) (v := .int (z1.1 0)) C 6 0 inBX2 rfl rfl (by decide) fl_X6_208 rfl rfl dX6_giveRoot_16 rfl ?_
  refine x_aload_n (pc' := 20) C dX6_giveRoot_19 rfl rfl rfl ?_
  refine x_get (pc' := 23) (v := .ref (ad 0)) C 0 0 inBX6 rfl rfl (by decide) fl_X6_10 rfl rfl dX6_giveRoot_20 rfl ?_
  refine x_get (pc' := 26) (v := .int (N.1 2)) C 1 2 inBX5 rfl rfl (by decide) fl_X6_278 rfl rfl dX6_giveRoot_23 rfl ?_
  refine x_iand (pc' := 27) (v := (z1.1 0 &&& N.1 2)) C dX6_giveRoot_26 rfl rfl ?_
  refine x_if_eq (tgt := 34) (pc' := 30) C dX6_giveRoot_27 (by decide) rfl (fun c2 => ?_) (fun c2 => ?_)
  · rw [if_pos c2] at hRES
    refine x_iconst (v := 0) (pc' := 35) C dX6_giveRoot_34 rfl (by decide) ?_
    refine x_istore_n (pc' := 36) (L' := [some (.ref h), some (.int a1), some (.int a2), some (.int 0)]) C dX6_giveRoot_35 rfl rfl (Nat.le_of_ble_eq_true rfl) rfl ?_
    refine x_aload_n (pc' := 37) C dX6_giveRoot_36 rfl rfl rfl ?_
    refine x_get (pc' := 40) (v := .ref (ad 0)) C 0 0 inBX6 rfl rfl (by decide) fl_X6_10 rfl rfl dX6_giveRoot_37 rfl ?_
    refine x_iload_n (pc' := 41) C dX6_giveRoot_40 rfl rfl rfl ?_
    refine x_if_eq (tgt := 48) (pc' := 44) C dX6_giveRoot_41 (by decide) rfl (fun c3 => ?_) (fun c3 => absurd c3 (by decide))
    refine x_iload_n (pc' := 49) C dX6_giveRoot_48 rfl rfl rfl ?_
    obtain ⟨z4, ez4⟩ : ∃ z, z = (f_X5_addRoot N a1) := ⟨_, rfl⟩
    replace hRES := bd hRES z4 ez4
    have hc := c_X5_addRoot (kl k) (kg k) (ad 0) adN N a1
    rw [← ez4] at hc
    refine x_catWV (st := []) (st2 := []) (pc' := 52) (wcs := [wSt (kg k) (ad 0) adN N]) (wrs := [wMa h ad M, wRe (kg k) (ad 5) adE z1]) (wcs' := [wSt (kg k) (ad 0) adN z4]) C B [wMa h ad M, wSt (kg k) (ad 0) adN z4, wRe (kg k) (ad 5) adE z1] hc (by simp only [cat, List.append_nil]) (by simp only [cat, List.append_nil]) cw_X6_73 ok_X5_addRoot rfl (by decide) rfl rfl [0, 2, 1] [0, 2, 1] rfl rfl rfl rfl rfl (Nat.le_of_ble_eq_true rfl) (Nat.zero_le _) (Nat.zero_le _) rfl dX6_giveRoot_49 rfl rfl ?_
    exact x_vret C (Nat.zero_le _) (Nat.zero_le _) dX6_giveRoot_52 ⟨rfl, by rw [hRES]⟩
  · rw [if_neg c2] at hRES
    refine x_iconst (v := 1) (pc' := 31) C dX6_giveRoot_30 rfl (by decide) ?_
    refine x_goto (tgt := 35) C dX6_giveRoot_31 (by decide) ?_
    refine x_istore_n (pc' := 36) (L' := [some (.ref h), some (.int a1), some (.int a2), some (.int 1)]) C dX6_giveRoot_35 rfl rfl (Nat.le_of_ble_eq_true rfl) rfl ?_
    refine x_aload_n (pc' := 37) C dX6_giveRoot_36 rfl rfl rfl ?_
    refine x_get (pc' := 40) (v := .ref (ad 0)) C 0 0 inBX6 rfl rfl (by decide) fl_X6_10 rfl rfl dX6_giveRoot_37 rfl ?_
    refine x_iload_n (pc' := 41) C dX6_giveRoot_40 rfl rfl rfl ?_
    refine x_if_eq (tgt := 48) (pc' := 44) C dX6_giveRoot_41 (by decide) rfl (fun c5 => absurd c5 (by decide)) (fun c5 => ?_)
    refine x_iload_n (pc' := 45) C dX6_giveRoot_44 rfl rfl rfl ?_
    refine x_goto (tgt := 49) C dX6_giveRoot_45 (by decide) ?_
    obtain ⟨z6, ez6⟩ : ∃ z, z = (f_X5_addRoot N a2) := ⟨_, rfl⟩
    replace hRES := bd hRES z6 ez6
    have hc := c_X5_addRoot (kl k) (kg k) (ad 0) adN N a2
    rw [← ez6] at hc
    refine x_catWV (st := []) (st2 := []) (pc' := 52) (wcs := [wSt (kg k) (ad 0) adN N]) (wrs := [wMa h ad M, wRe (kg k) (ad 5) adE z1]) (wcs' := [wSt (kg k) (ad 0) adN z6]) C B [wMa h ad M, wSt (kg k) (ad 0) adN z6, wRe (kg k) (ad 5) adE z1] hc (by simp only [cat, List.append_nil]) (by simp only [cat, List.append_nil]) cw_X6_73 ok_X5_addRoot rfl (by decide) rfl rfl [0, 2, 1] [0, 2, 1] rfl rfl rfl rfl rfl (Nat.le_of_ble_eq_true rfl) (Nat.zero_le _) (Nat.zero_le _) rfl dX6_giveRoot_49 rfl rfl ?_
    exact x_vret C (Nat.zero_le _) (Nat.zero_le _) dX6_giveRoot_52 ⟨rfl, by rw [hRES]⟩

def f_X6_cut (M : CS) (N : CS) (F : CS) (Q : HS) (E : CS) (a1 : Int32) : Int32 × CS × CS × HS × CS := (if (f_X5_has N a1) = true then (if a1 = 0 then ((-4), N, F, Q, E) else (if (f_X5_isKept N a1) = true then (bind1 (f_X6_beginAct M N F) (fun z4 => (bind1 (f_X5_cutDifference N a1) (fun z5 => (bind1 (f_X6_giveRoot M z5 E a1 (f_X5_sourceOf z5 a1)) (fun z6 => (bind1 (f_X6_endAct M z4 Q (f_X5_trees z6.1)) (fun z8 => (z8.1, z6.1, z4, z8.2, z6.2))))))))) else ((-5), N, F, Q, E))) else ((-1), N, F, Q, E))
def o_X6_cut (M : CS) (N : CS) (F : CS) (Q : HS) (E : CS) (a1 : Int32) : Prop := (((f_X5_has N a1) = true → ((a1 = 0 → True) ∧ (¬ (a1 = 0) → (((f_X5_isKept N a1) = true → (bind1 (f_X6_beginAct M N F) (fun z4 => (bind1 (f_X5_cutDifference N a1) (fun z5 => (bind1 (f_X6_giveRoot M z5 E a1 (f_X5_sourceOf z5 a1)) (fun z6 => ((o_X6_endAct M z4 Q (f_X5_trees z6.1)) ∧ (bind1 (f_X6_endAct M z4 Q (f_X5_trees z6.1)) (fun z8 => True)))))))))) ∧ (¬ (f_X5_isKept N a1) = true → True))))) ∧ (¬ (f_X5_has N a1) = true → True))
set_option maxRecDepth 100000 in
set_option maxHeartbeats 8000000 in
theorem c_X6_cut (l : Launch) (g : GT) (h : Nat) (ad : Nat → Nat) (M : CS) (adN : Nat → Nat) (N : CS) (adF : Nat → Nat) (F : CS) (adQ : Nat → Nat) (Q : HS) (adE : Nat → Nat) (E : CS) (a1 : Int32) (hok : o_X6_cut M N F Q E a1) : CW l yX6_cut (.code yX6_cut cX6_cut 2 (some .int)) 5 g [.ref h, .int a1] (cat [wMa h ad M, wSt g (ad 0) adN N, wSt g (ad 1) adF F, wHi g (ad 4) adQ Q, wRe g (ad 5) adE E]) (some (.int (f_X6_cut M N F Q E a1).1)) (cat [wMa h ad M, wSt g (ad 0) adN (f_X6_cut M N F Q E a1).2.1, wSt g (ad 1) adF (f_X6_cut M N F Q E a1).2.2.1, wHi g (ad 4) adQ (f_X6_cut M N F Q E a1).2.2.2.1, wRe g (ad 5) adE (f_X6_cut M N F Q E a1).2.2.2.2]) := by
  obtain ⟨RES, hRES⟩ : ∃ z, z = (f_X6_cut M N F Q E a1) := ⟨_, rfl⟩
  rw [← hRES]
  unfold f_X6_cut at hRES
  unfold o_X6_cut at hok
  refine CWx.of (nL := 2) (ret := (some .int)) (own := RX6) (cc := cX6_cut) rfl (by decide) rfl (List.forall_mem_cons.mpr ⟨rfl, (List.forall_mem_cons.mpr ⟨rfl, (fun _ h => absurd h List.not_mem_nil)⟩)⟩) (Nat.le_of_ble_eq_true rfl) ?_
  intro k C B hin hkl hkg
  subst hkl; subst hkg
  refine x_loc2 (L' := [some (.ref h), some (.int a1)]) rfl ?_
  refine x_aload_n (pc' := 1) C dX6_cut_0 rfl rfl rfl ?_
  refine x_get (pc' := 4) (v := .ref (ad 0)) C 0 0 inBX6 rfl rfl (by decide) fl_X6_10 rfl rfl dX6_cut_1 rfl ?_
  refine x_iload_n (pc' := 5) C dX6_cut_4 rfl rfl rfl ?_
  refine x_catRV (st := []) (st2 := [.int (bI (f_X5_has N a1))]) (pc' := 8) (wcs := [wSt (kg k) (ad 0) adN N]) C (c_X5_has (kl k) (kg k) (ad 0) adN N a1) (by simp only [cat, List.append_nil]) cw_X6_57 ok_X5_has rfl (by decide) rfl rfl [1] rfl rfl rfl (Nat.le_of_ble_eq_true rfl) (Nat.zero_le _) (Nat.zero_le _) rfl dX6_cut_5 rfl rfl ?_
  refine x_ifB_ne (tgt := 13) (pc' := 11) C dX6_cut_8 (by decide) rfl (fun c1 => ?_) (fun c1 => ?_)
  · rw [if_pos c1] at hRES
    replace hok := hok.1 c1
    refine x_iload_n (pc' := 14) C dX6_cut_13 rfl rfl rfl ?_
    refine x_if_ne (tgt := 20) (pc' := 17) C dX6_cut_14 (by decide) rfl (fun c2 => ?_) (fun c2 => ?_)
    · rw [if_neg c2] at hRES
      replace hok := hok.2 c2
      refine x_aload_n (pc' := 21) C dX6_cut_20 rfl rfl rfl ?_
      refine x_get (pc' := 24) (v := .ref (ad 0)) C 0 0 inBX6 rfl rfl (by decide) fl_X6_10 rfl rfl dX6_cut_21 rfl ?_
      refine x_iload_n (pc' := 25) C dX6_cut_24 rfl rfl rfl ?_
      refine x_catRV (st := []) (st2 := [.int (bI (f_X5_isKept N a1))]) (pc' := 28) (wcs := [wSt (kg k) (ad 0) adN N]) C (c_X5_isKept (kl k) (kg k) (ad 0) adN N a1) (by simp only [cat, List.append_nil]) cw_X6_67 ok_X5_isKept rfl (by decide) rfl rfl [1] rfl rfl rfl (Nat.le_of_ble_eq_true rfl) (Nat.zero_le _) (Nat.zero_le _) rfl dX6_cut_25 rfl rfl ?_
      refine x_ifB_ne (tgt := 34) (pc' := 31) C dX6_cut_28 (by decide) rfl (fun c3 => ?_) (fun c3 => ?_)
      · rw [if_pos c3] at hRES
        replace hok := hok.1 c3
        refine x_aload_n (pc' := 35) C dX6_cut_34 rfl rfl rfl ?_
        obtain ⟨z4, ez4⟩ : ∃ z, z = (f_X6_beginAct M N F) := ⟨_, rfl⟩
        replace hRES := bd hRES z4 ez4
        replace hok := bdP hok z4 ez4
        have hc := c_X6_beginAct (kl k) (kg k) h ad M adN N adF F
        rw [← ez4] at hc
        refine x_catWV (st := []) (st2 := []) (pc' := 38) (wcs := [wMa h ad M, wSt (kg k) (ad 0) adN N, wSt (kg k) (ad 1) adF F]) (wrs := [wHi (kg k) (ad 4) adQ Q, wRe (kg k) (ad 5) adE E]) (wcs' := [wMa h ad M, wSt (kg k) (ad 0) adN N, wSt (kg k) (ad 1) adF z4]) C B [wMa h ad M, wSt (kg k) (ad 0) adN N, wSt (kg k) (ad 1) adF z4, wHi (kg k) (ad 4) adQ Q, wRe (kg k) (ad 5) adE E] hc rfl rfl cw_X6_43 ok_X6_beginAct rfl (by decide) rfl rfl [3, 4, 0, 1, 2] [2, 3, 4, 0, 1] rfl rfl rfl rfl rfl (Nat.le_of_ble_eq_true rfl) (Nat.zero_le _) (Nat.zero_le _) rfl dX6_cut_35 rfl rfl ?_
        refine x_aload_n (pc' := 39) C dX6_cut_38 rfl rfl rfl ?_
        refine x_get (pc' := 42) (v := .ref (ad 0)) C 0 0 inBX6 rfl rfl (by decide) fl_X6_10 rfl rfl dX6_cut_39 rfl ?_
        refine x_iload_n (pc' := 43) C dX6_cut_42 rfl rfl rfl ?_
        obtain ⟨z5, ez5⟩ : ∃ z, z = (f_X5_cutDifference N a1) := ⟨_, rfl⟩
        replace hRES := bd hRES z5 ez5
        replace hok := bdP hok z5 ez5
        have hc := c_X5_cutDifference (kl k) (kg k) (ad 0) adN N a1
        rw [← ez5] at hc
        refine x_catWV (st := []) (st2 := []) (pc' := 46) (wcs := [wSt (kg k) (ad 0) adN N]) (wrs := [wMa h ad M, wSt (kg k) (ad 1) adF z4, wHi (kg k) (ad 4) adQ Q, wRe (kg k) (ad 5) adE E]) (wcs' := [wSt (kg k) (ad 0) adN z5]) C B [wMa h ad M, wSt (kg k) (ad 0) adN z5, wSt (kg k) (ad 1) adF z4, wHi (kg k) (ad 4) adQ Q, wRe (kg k) (ad 5) adE E] hc (by simp only [cat, List.append_nil]) (by simp only [cat, List.append_nil]) cw_X6_90 ok_X5_cutDifference rfl (by decide) rfl rfl [0, 2, 3, 4, 1] [0, 4, 1, 2, 3] rfl rfl rfl rfl rfl (Nat.le_of_ble_eq_true rfl) (Nat.zero_le _) (Nat.zero_le _) rfl dX6_cut_43 rfl rfl ?_
        refine x_aload_n (pc' := 47) C dX6_cut_46 rfl rfl rfl ?_
        refine x_iload_n (pc' := 48) C dX6_cut_47 rfl rfl rfl ?_
        refine x_aload_n (pc' := 49) C dX6_cut_48 rfl rfl rfl ?_
        refine x_get (pc' := 52) (v := .ref (ad 0)) C 0 0 inBX6 rfl rfl (by decide) fl_X6_10 rfl rfl dX6_cut_49 rfl ?_
        refine x_iload_n (pc' := 53) C dX6_cut_52 rfl rfl rfl ?_
        refine x_catRV (st := [.int a1, .ref h]) (st2 := [.int (f_X5_sourceOf z5 a1), .int a1, .ref h]) (pc' := 56) (wcs := [wSt (kg k) (ad 0) adN z5]) C (c_X5_sourceOf (kl k) (kg k) (ad 0) adN z5 a1) (by simp only [cat, List.append_nil]) cw_X6_70 ok_X5_sourceOf rfl (by decide) rfl rfl [1] rfl rfl rfl (Nat.le_of_ble_eq_true rfl) (Nat.zero_le _) (Nat.zero_le _) rfl dX6_cut_53 rfl rfl ?_
        obtain ⟨z6, ez6⟩ : ∃ z, z = (f_X6_giveRoot M z5 E a1 (f_X5_sourceOf z5 a1)) := ⟨_, rfl⟩
        replace hRES := bd hRES z6 ez6
        replace hok := bdP hok z6 ez6
        have hc := c_X6_giveRoot (kl k) (kg k) h ad M adN z5 adE E a1 (f_X5_sourceOf z5 a1)
        rw [← ez6] at hc
        refine x_catWV (st := []) (st2 := []) (pc' := 59) (wcs := [wMa h ad M, wSt (kg k) (ad 0) adN z5, wRe (kg k) (ad 5) adE E]) (wrs := [wSt (kg k) (ad 1) adF z4, wHi (kg k) (ad 4) adQ Q]) (wcs' := [wMa h ad M, wSt (kg k) (ad 0) adN z6.1, wRe (kg k) (ad 5) adE z6.2]) C B [wMa h ad M, wSt (kg k) (ad 0) adN z6.1, wSt (kg k) (ad 1) adF z4, wHi (kg k) (ad 4) adQ Q, wRe (kg k) (ad 5) adE z6.2] hc rfl rfl cw_X6_93 ok_X6_giveRoot rfl (by decide) rfl rfl [2, 3, 0, 1, 4] [2, 3, 0, 1, 4] rfl rfl rfl rfl rfl (Nat.le_of_ble_eq_true rfl) (Nat.zero_le _) (Nat.zero_le _) rfl dX6_cut_56 rfl rfl ?_
        refine x_aload_n (pc' := 60) C dX6_cut_59 rfl rfl rfl ?_
        refine x_aload_n (pc' := 61) C dX6_cut_60 rfl rfl rfl ?_
        refine x_get (pc' := 64) (v := .ref (ad 0)) C 0 0 inBX6 rfl rfl (by decide) fl_X6_10 rfl rfl dX6_cut_61 rfl ?_
        refine x_catRV (st := [.ref h]) (st2 := [.int (f_X5_trees z6.1), .ref h]) (pc' := 67) (wcs := [wSt (kg k) (ad 0) adN z6.1]) C (c_X5_trees (kl k) (kg k) (ad 0) adN z6.1) (by simp only [cat, List.append_nil]) cw_X6_97 ok_X5_trees rfl (by decide) rfl rfl [1] rfl rfl rfl (Nat.le_of_ble_eq_true rfl) (Nat.zero_le _) (Nat.zero_le _) rfl dX6_cut_64 rfl rfl ?_
        obtain ⟨hn7, hok⟩ := hok
        obtain ⟨z8, ez8⟩ : ∃ z, z = (f_X6_endAct M z4 Q (f_X5_trees z6.1)) := ⟨_, rfl⟩
        replace hRES := bd hRES z8 ez8
        replace hok := bdP hok z8 ez8
        have hc := c_X6_endAct (kl k) (kg k) h ad M adF z4 adQ Q (f_X5_trees z6.1) hn7
        rw [← ez8] at hc
        refine x_catWV (st := []) (st2 := [.int z8.1]) (pc' := 70) (wcs := [wMa h ad M, wSt (kg k) (ad 1) adF z4, wHi (kg k) (ad 4) adQ Q]) (wrs := [wSt (kg k) (ad 0) adN z6.1, wRe (kg k) (ad 5) adE z6.2]) (wcs' := [wMa h ad M, wSt (kg k) (ad 1) adF z4, wHi (kg k) (ad 4) adQ z8.2]) C B [wMa h ad M, wSt (kg k) (ad 0) adN z6.1, wSt (kg k) (ad 1) adF z4, wHi (kg k) (ad 4) adQ z8.2, wRe (kg k) (ad 5) adE z6.2] hc rfl rfl cw_X6_50 ok_X6_endAct rfl (by decide) rfl rfl [1, 4, 0, 2, 3] [2, 0, 3, 4, 1] rfl rfl rfl rfl rfl (Nat.le_of_ble_eq_true rfl) (Nat.zero_le _) (Nat.zero_le _) rfl dX6_cut_67 rfl rfl ?_
        exact x_iret C (Nat.zero_le _) (Nat.zero_le _) dX6_cut_70 ⟨by rw [hRES], by rw [hRES]⟩
      · rw [if_neg c3] at hRES
        replace hok := hok.2 c3
        refine x_bipush (v := (-5)) (pc' := 33) C dX6_cut_31 rfl (by decide) ?_
        exact x_iret C (Nat.zero_le _) (Nat.zero_le _) dX6_cut_33 ⟨by rw [hRES], by rw [hRES]⟩
    · rw [if_pos c2] at hRES
      replace hok := hok.1 c2
      refine x_bipush (v := (-4)) (pc' := 19) C dX6_cut_17 rfl (by decide) ?_
      exact x_iret C (Nat.zero_le _) (Nat.zero_le _) dX6_cut_19 ⟨by rw [hRES], by rw [hRES]⟩
  · rw [if_neg c1] at hRES
    replace hok := hok.2 c1
    refine x_iconst (v := (-1)) (pc' := 12) C dX6_cut_11 rfl (by decide) ?_
    exact x_iret C (Nat.zero_le _) (Nat.zero_le _) dX6_cut_12 ⟨by rw [hRES], by rw [hRES]⟩

def f_X6_tryJoin (M : CS) (N : CS) (E : CS) (a1 : Int32) : Int32 × CS × CS := (if (f_X5_has N a1) = true then (if a1 = 0 then ((-4), N, E) else (if (f_X5_isKept N a1) = true then ((-5), N, E) else (bind1 (f_X2_spread E N a1) (fun z4 => (bind1 (f_X5_dropRoot N (f_X2_rootReached z4 N)) (fun z5 => (bind1 (f_X5_keepDifference z5 a1) (fun z6 => ((f_X5_trees z6), z6, z4))))))))) else ((-1), N, E))
set_option maxRecDepth 100000 in
set_option maxHeartbeats 8000000 in
theorem c_X6_tryJoin (l : Launch) (g : GT) (h : Nat) (ad : Nat → Nat) (M : CS) (adN : Nat → Nat) (N : CS) (adE : Nat → Nat) (E : CS) (a1 : Int32) : CW l yX6_tryJoin (.code yX6_tryJoin cX6_tryJoin 2 (some .int)) 4 g [.ref h, .int a1] (cat [wMa h ad M, wSt g (ad 0) adN N, wRe g (ad 5) adE E]) (some (.int (f_X6_tryJoin M N E a1).1)) (cat [wMa h ad M, wSt g (ad 0) adN (f_X6_tryJoin M N E a1).2.1, wRe g (ad 5) adE (f_X6_tryJoin M N E a1).2.2]) := by
  obtain ⟨RES, hRES⟩ : ∃ z, z = (f_X6_tryJoin M N E a1) := ⟨_, rfl⟩
  rw [← hRES]
  unfold f_X6_tryJoin at hRES
  refine CWx.of (nL := 2) (ret := (some .int)) (own := RX6) (cc := cX6_tryJoin) rfl (by decide) rfl (List.forall_mem_cons.mpr ⟨rfl, (List.forall_mem_cons.mpr ⟨rfl, (fun _ h => absurd h List.not_mem_nil)⟩)⟩) (Nat.le_of_ble_eq_true rfl) ?_
  intro k C B hin hkl hkg
  subst hkl; subst hkg
  refine x_loc2 (L' := [some (.ref h), some (.int a1)]) rfl ?_
  refine x_aload_n (pc' := 1) C dX6_tryJoin_0 rfl rfl rfl ?_
  refine x_get (pc' := 4) (v := .ref (ad 0)) C 0 0 inBX6 rfl rfl (by decide) fl_X6_10 rfl rfl dX6_tryJoin_1 rfl ?_
  refine x_iload_n (pc' := 5) C dX6_tryJoin_4 rfl rfl rfl ?_
  refine x_catRV (st := []) (st2 := [.int (bI (f_X5_has N a1))]) (pc' := 8) (wcs := [wSt (kg k) (ad 0) adN N]) C (c_X5_has (kl k) (kg k) (ad 0) adN N a1) (by simp only [cat, List.append_nil]) cw_X6_57 ok_X5_has rfl (by decide) rfl rfl [1] rfl rfl rfl (Nat.le_of_ble_eq_true rfl) (Nat.zero_le _) (Nat.zero_le _) rfl dX6_tryJoin_5 rfl rfl ?_
  refine x_ifB_ne (tgt := 13) (pc' := 11) C dX6_tryJoin_8 (by decide) rfl (fun c1 => ?_) (fun c1 => ?_)
  · rw [if_pos c1] at hRES
    refine x_iload_n (pc' := 14) C dX6_tryJoin_13 rfl rfl rfl ?_
    refine x_if_ne (tgt := 20) (pc' := 17) C dX6_tryJoin_14 (by decide) rfl (fun c2 => ?_) (fun c2 => ?_)
    · rw [if_neg c2] at hRES
      refine x_aload_n (pc' := 21) C dX6_tryJoin_20 rfl rfl rfl ?_
      refine x_get (pc' := 24) (v := .ref (ad 0)) C 0 0 inBX6 rfl rfl (by decide) fl_X6_10 rfl rfl dX6_tryJoin_21 rfl ?_
      refine x_iload_n (pc' := 25) C dX6_tryJoin_24 rfl rfl rfl ?_
      refine x_catRV (st := []) (st2 := [.int (bI (f_X5_isKept N a1))]) (pc' := 28) (wcs := [wSt (kg k) (ad 0) adN N]) C (c_X5_isKept (kl k) (kg k) (ad 0) adN N a1) (by simp only [cat, List.append_nil]) cw_X6_67 ok_X5_isKept rfl (by decide) rfl rfl [1] rfl rfl rfl (Nat.le_of_ble_eq_true rfl) (Nat.zero_le _) (Nat.zero_le _) rfl dX6_tryJoin_25 rfl rfl ?_
      refine x_ifB_eq (tgt := 34) (pc' := 31) C dX6_tryJoin_28 (by decide) rfl (fun c3 => ?_) (fun c3 => ?_)
      · rw [if_neg c3] at hRES
        refine x_aload_n (pc' := 35) C dX6_tryJoin_34 rfl rfl rfl ?_
        refine x_get (pc' := 38) (v := .ref (ad 5)) C 0 5 inBX6 rfl rfl (by decide) fl_X6_32 rfl rfl dX6_tryJoin_35 rfl ?_
        refine x_aload_n (pc' := 39) C dX6_tryJoin_38 rfl rfl rfl ?_
        refine x_get (pc' := 42) (v := .ref (ad 0)) C 0 0 inBX6 rfl rfl (by decide) fl_X6_10 rfl rfl dX6_tryJoin_39 rfl ?_
        refine x_iload_n (pc' := 43) C dX6_tryJoin_42 rfl rfl rfl ?_
        obtain ⟨z4, ez4⟩ : ∃ z, z = (f_X2_spread E N a1) := ⟨_, rfl⟩
        replace hRES := bd hRES z4 ez4
        have hc := c_X2_spread (kl k) (kg k) (ad 5) adE E (ad 0) adN N a1
        rw [← ez4] at hc
        refine x_catWV (st := []) (st2 := []) (pc' := 46) (wcs := [wRe (kg k) (ad 5) adE E, wSt (kg k) (ad 0) adN N]) (wrs := [wMa h ad M]) (wcs' := [wRe (kg k) (ad 5) adE z4, wSt (kg k) (ad 0) adN N]) C B [wMa h ad M, wSt (kg k) (ad 0) adN N, wRe (kg k) (ad 5) adE z4] hc (by simp only [cat, List.append_nil]) (by simp only [cat, List.append_nil]) cw_X6_174 ok_X2_spread rfl (by decide) rfl rfl [0, 2, 1] [0, 2, 1] rfl rfl rfl rfl rfl (Nat.le_of_ble_eq_true rfl) (Nat.zero_le _) (Nat.zero_le _) rfl dX6_tryJoin_43 rfl rfl ?_
        refine x_aload_n (pc' := 47) C dX6_tryJoin_46 rfl rfl rfl ?_
        refine x_get (pc' := 50) (v := .ref (ad 0)) C 0 0 inBX6 rfl rfl (by decide) fl_X6_10 rfl rfl dX6_tryJoin_47 rfl ?_
        refine x_aload_n (pc' := 51) C dX6_tryJoin_50 rfl rfl rfl ?_
        refine x_get (pc' := 54) (v := .ref (ad 5)) C 0 5 inBX6 rfl rfl (by decide) fl_X6_32 rfl rfl dX6_tryJoin_51 rfl ?_
        refine x_aload_n (pc' := 55) C dX6_tryJoin_54 rfl rfl rfl ?_
        refine x_get (pc' := 58) (v := .ref (ad 0)) C 0 0 inBX6 rfl rfl (by decide) fl_X6_10 rfl rfl dX6_tryJoin_55 rfl ?_
        refine x_catRV (st := [.ref (ad 0)]) (st2 := [.int (f_X2_rootReached z4 N), .ref (ad 0)]) (pc' := 61) (wcs := [wRe (kg k) (ad 5) adE z4, wSt (kg k) (ad 0) adN N]) C (c_X2_rootReached (kl k) (kg k) (ad 5) adE z4 (ad 0) adN N) (by simp only [cat, List.append_nil]) cw_X6_178 ok_X2_rootReached rfl (by decide) rfl rfl [2, 1] rfl rfl rfl (Nat.le_of_ble_eq_true rfl) (Nat.zero_le _) (Nat.zero_le _) rfl dX6_tryJoin_58 rfl rfl ?_
        obtain ⟨z5, ez5⟩ : ∃ z, z = (f_X5_dropRoot N (f_X2_rootReached z4 N)) := ⟨_, rfl⟩
        replace hRES := bd hRES z5 ez5
        have hc := c_X5_dropRoot (kl k) (kg k) (ad 0) adN N (f_X2_rootReached z4 N)
        rw [← ez5] at hc
        refine x_catWV (st := []) (st2 := []) (pc' := 64) (wcs := [wSt (kg k) (ad 0) adN N]) (wrs := [wMa h ad M, wRe (kg k) (ad 5) adE z4]) (wcs' := [wSt (kg k) (ad 0) adN z5]) C B [wMa h ad M, wSt (kg k) (ad 0) adN z5, wRe (kg k) (ad 5) adE z4] hc (by simp only [cat, List.append_nil]) (by simp only [cat, List.append_nil]) cw_X6_272 ok_X5_dropRoot rfl (by decide) rfl rfl [0, 2, 1] [0, 2, 1] rfl rfl rfl rfl rfl (Nat.le_of_ble_eq_true rfl) (Nat.zero_le _) (Nat.zero_le _) rfl dX6_tryJoin_61 rfl rfl ?_
        refine x_aload_n (pc' := 65) C dX6_tryJoin_64 rfl rfl rfl ?_
        refine x_get (pc' := 68) (v := .ref (ad 0)) C 0 0 inBX6 rfl rfl (by decide) fl_X6_10 rfl rfl dX6_tryJoin_65 rfl ?_
        refine x_iload_n (pc' := 69) C dX6_tryJoin_68 rfl rfl rfl ?_
        obtain ⟨z6, ez6⟩ : ∃ z, z = (f_X5_keepDifference z5 a1) := ⟨_, rfl⟩
        replace hRES := bd hRES z6 ez6
        have hc := c_X5_keepDifference (kl k) (kg k) (ad 0) adN z5 a1
        rw [← ez6] at hc
        refine x_catWV (st := []) (st2 := []) (pc' := 72) (wcs := [wSt (kg k) (ad 0) adN z5]) (wrs := [wMa h ad M, wRe (kg k) (ad 5) adE z4]) (wcs' := [wSt (kg k) (ad 0) adN z6]) C B [wMa h ad M, wSt (kg k) (ad 0) adN z6, wRe (kg k) (ad 5) adE z4] hc (by simp only [cat, List.append_nil]) (by simp only [cat, List.append_nil]) cw_X6_275 ok_X5_keepDifference rfl (by decide) rfl rfl [0, 2, 1] [0, 2, 1] rfl rfl rfl rfl rfl (Nat.le_of_ble_eq_true rfl) (Nat.zero_le _) (Nat.zero_le _) rfl dX6_tryJoin_69 rfl rfl ?_
        refine x_aload_n (pc' := 73) C dX6_tryJoin_72 rfl rfl rfl ?_
        refine x_get (pc' := 76) (v := .ref (ad 0)) C 0 0 inBX6 rfl rfl (by decide) fl_X6_10 rfl rfl dX6_tryJoin_73 rfl ?_
        refine x_catRV (st := []) (st2 := [.int (f_X5_trees z6)]) (pc' := 79) (wcs := [wSt (kg k) (ad 0) adN z6]) C (c_X5_trees (kl k) (kg k) (ad 0) adN z6) (by simp only [cat, List.append_nil]) cw_X6_97 ok_X5_trees rfl (by decide) rfl rfl [1] rfl rfl rfl (Nat.le_of_ble_eq_true rfl) (Nat.zero_le _) (Nat.zero_le _) rfl dX6_tryJoin_76 rfl rfl ?_
        exact x_iret C (Nat.zero_le _) (Nat.zero_le _) dX6_tryJoin_79 ⟨by rw [hRES], by rw [hRES]⟩
      · rw [if_pos c3] at hRES
        refine x_bipush (v := (-5)) (pc' := 33) C dX6_tryJoin_31 rfl (by decide) ?_
        exact x_iret C (Nat.zero_le _) (Nat.zero_le _) dX6_tryJoin_33 ⟨by rw [hRES], by rw [hRES]⟩
    · rw [if_pos c2] at hRES
      refine x_bipush (v := (-4)) (pc' := 19) C dX6_tryJoin_17 rfl (by decide) ?_
      exact x_iret C (Nat.zero_le _) (Nat.zero_le _) dX6_tryJoin_19 ⟨by rw [hRES], by rw [hRES]⟩
  · rw [if_neg c1] at hRES
    refine x_iconst (v := (-1)) (pc' := 12) C dX6_tryJoin_11 rfl (by decide) ?_
    exact x_iret C (Nat.zero_le _) (Nat.zero_le _) dX6_tryJoin_12 ⟨by rw [hRES], by rw [hRES]⟩

def f_X6_join (M : CS) (N : CS) (F : CS) (Q : HS) (E : CS) (a1 : Int32) : Int32 × CS × CS × HS × CS := (bind1 (f_X6_beginAct M N F) (fun z1 => (bind1 (f_X6_tryJoin M N E a1) (fun z2 => (bind1 (f_X6_endAct M z1 Q z2.1) (fun z4 => (z4.1, z2.2.1, z1, z4.2, z2.2.2)))))))
def o_X6_join (M : CS) (N : CS) (F : CS) (Q : HS) (E : CS) (a1 : Int32) : Prop := (bind1 (f_X6_beginAct M N F) (fun z1 => (bind1 (f_X6_tryJoin M N E a1) (fun z2 => ((o_X6_endAct M z1 Q z2.1) ∧ (bind1 (f_X6_endAct M z1 Q z2.1) (fun z4 => True)))))))
set_option maxRecDepth 100000 in
set_option maxHeartbeats 8000000 in
theorem c_X6_join (l : Launch) (g : GT) (h : Nat) (ad : Nat → Nat) (M : CS) (adN : Nat → Nat) (N : CS) (adF : Nat → Nat) (F : CS) (adQ : Nat → Nat) (Q : HS) (adE : Nat → Nat) (E : CS) (a1 : Int32) (hok : o_X6_join M N F Q E a1) : CW l yX6_join (.code yX6_join cX6_join 2 (some .int)) 5 g [.ref h, .int a1] (cat [wMa h ad M, wSt g (ad 0) adN N, wSt g (ad 1) adF F, wHi g (ad 4) adQ Q, wRe g (ad 5) adE E]) (some (.int (f_X6_join M N F Q E a1).1)) (cat [wMa h ad M, wSt g (ad 0) adN (f_X6_join M N F Q E a1).2.1, wSt g (ad 1) adF (f_X6_join M N F Q E a1).2.2.1, wHi g (ad 4) adQ (f_X6_join M N F Q E a1).2.2.2.1, wRe g (ad 5) adE (f_X6_join M N F Q E a1).2.2.2.2]) := by
  obtain ⟨RES, hRES⟩ : ∃ z, z = (f_X6_join M N F Q E a1) := ⟨_, rfl⟩
  rw [← hRES]
  unfold f_X6_join at hRES
  unfold o_X6_join at hok
  refine CWx.of (nL := 2) (ret := (some .int)) (own := RX6) (cc := cX6_join) rfl (by decide) rfl (List.forall_mem_cons.mpr ⟨rfl, (List.forall_mem_cons.mpr ⟨rfl, (fun _ h => absurd h List.not_mem_nil)⟩)⟩) (Nat.le_of_ble_eq_true rfl) ?_
  intro k C B hin hkl hkg
  subst hkl; subst hkg
  refine x_loc2 (L' := [some (.ref h), some (.int a1)]) rfl ?_
  refine x_aload_n (pc' := 1) C dX6_join_0 rfl rfl rfl ?_
  obtain ⟨z1, ez1⟩ : ∃ z, z = (f_X6_beginAct M N F) := ⟨_, rfl⟩
  replace hRES := bd hRES z1 ez1
  replace hok := bdP hok z1 ez1
  have hc := c_X6_beginAct (kl k) (kg k) h ad M adN N adF F
  rw [← ez1] at hc
  refine x_catWV (st := []) (st2 := []) (pc' := 4) (wcs := [wMa h ad M, wSt (kg k) (ad 0) adN N, wSt (kg k) (ad 1) adF F]) (wrs := [wHi (kg k) (ad 4) adQ Q, wRe (kg k) (ad 5) adE E]) (wcs' := [wMa h ad M, wSt (kg k) (ad 0) adN N, wSt (kg k) (ad 1) adF z1]) C B [wMa h ad M, wSt (kg k) (ad 0) adN N, wSt (kg k) (ad 1) adF z1, wHi (kg k) (ad 4) adQ Q, wRe (kg k) (ad 5) adE E] hc rfl rfl cw_X6_43 ok_X6_beginAct rfl (by decide) rfl rfl [3, 4, 0, 1, 2] [2, 3, 4, 0, 1] rfl rfl rfl rfl rfl (Nat.le_of_ble_eq_true rfl) (Nat.zero_le _) (Nat.zero_le _) rfl dX6_join_1 rfl rfl ?_
  refine x_aload_n (pc' := 5) C dX6_join_4 rfl rfl rfl ?_
  refine x_aload_n (pc' := 6) C dX6_join_5 rfl rfl rfl ?_
  refine x_iload_n (pc' := 7) C dX6_join_6 rfl rfl rfl ?_
  obtain ⟨z2, ez2⟩ : ∃ z, z = (f_X6_tryJoin M N E a1) := ⟨_, rfl⟩
  replace hRES := bd hRES z2 ez2
  replace hok := bdP hok z2 ez2
  have hc := c_X6_tryJoin (kl k) (kg k) h ad M adN N adE E a1
  rw [← ez2] at hc
  refine x_catWV (st := [.ref h]) (st2 := [.int z2.1, .ref h]) (pc' := 10) (wcs := [wMa h ad M, wSt (kg k) (ad 0) adN N, wRe (kg k) (ad 5) adE E]) (wrs := [wSt (kg k) (ad 1) adF z1, wHi (kg k) (ad 4) adQ Q]) (wcs' := [wMa h ad M, wSt (kg k) (ad 0) adN z2.2.1, wRe (kg k) (ad 5) adE z2.2.2]) C B [wMa h ad M, wSt (kg k) (ad 0) adN z2.2.1, wSt (kg k) (ad 1) adF z1, wHi (kg k) (ad 4) adQ Q, wRe (kg k) (ad 5) adE z2.2.2] hc rfl rfl cw_X6_100 ok_X6_tryJoin rfl (by decide) rfl rfl [2, 3, 0, 1, 4] [2, 3, 0, 1, 4] rfl rfl rfl rfl rfl (Nat.le_of_ble_eq_true rfl) (Nat.zero_le _) (Nat.zero_le _) rfl dX6_join_7 rfl rfl ?_
  obtain ⟨hn3, hok⟩ := hok
  obtain ⟨z4, ez4⟩ : ∃ z, z = (f_X6_endAct M z1 Q z2.1) := ⟨_, rfl⟩
  replace hRES := bd hRES z4 ez4
  replace hok := bdP hok z4 ez4
  have hc := c_X6_endAct (kl k) (kg k) h ad M adF z1 adQ Q z2.1 hn3
  rw [← ez4] at hc
  refine x_catWV (st := []) (st2 := [.int z4.1]) (pc' := 13) (wcs := [wMa h ad M, wSt (kg k) (ad 1) adF z1, wHi (kg k) (ad 4) adQ Q]) (wrs := [wSt (kg k) (ad 0) adN z2.2.1, wRe (kg k) (ad 5) adE z2.2.2]) (wcs' := [wMa h ad M, wSt (kg k) (ad 1) adF z1, wHi (kg k) (ad 4) adQ z4.2]) C B [wMa h ad M, wSt (kg k) (ad 0) adN z2.2.1, wSt (kg k) (ad 1) adF z1, wHi (kg k) (ad 4) adQ z4.2, wRe (kg k) (ad 5) adE z2.2.2] hc rfl rfl cw_X6_50 ok_X6_endAct rfl (by decide) rfl rfl [1, 4, 0, 2, 3] [2, 0, 3, 4, 1] rfl rfl rfl rfl rfl (Nat.le_of_ble_eq_true rfl) (Nat.zero_le _) (Nat.zero_le _) rfl dX6_join_10 rfl rfl ?_
  exact x_iret C (Nat.zero_le _) (Nat.zero_le _) dX6_join_13 ⟨by rw [hRES], by rw [hRES]⟩

def f_X6_set (M : CS) (N : CS) (F : CS) (Q : HS) (a1 : Int32) (a2 : Int32) : Int32 × CS × CS × HS := (if a1 = 0 then (if a2 < 0 then ((-2), N, F, Q) else (if a2 < 3 then (if N.1 7 = a2 then ((-5), N, F, Q) else (bind1 (f_X6_beginAct M N F) (fun z10 => (bind1 (setI N 7 a2) (fun z12 => (bind1 (f_X6_endAct M z10 Q (N.1 7)) (fun z14 => (z14.1, z12, z10, z14.2)))))))) else ((-2), N, F, Q))) else (if a1 = 1 then (if a2 < 1 then ((-2), N, F, Q) else (if 30 < a2 then ((-2), N, F, Q) else (if N.1 8 = a2 then ((-5), N, F, Q) else (bind1 (f_X6_beginAct M N F) (fun z24 => (bind1 (setI N 8 a2) (fun z26 => (bind1 (f_X6_endAct M z24 Q (N.1 8)) (fun z28 => (z28.1, z26, z24, z28.2)))))))))) else ((-1), N, F, Q)))
def o_X6_set (M : CS) (N : CS) (F : CS) (Q : HS) (a1 : Int32) (a2 : Int32) : Prop := ((a1 = 0 → ((a2 < 0 → True) ∧ (¬ (a2 < 0) → ((a2 < 3 → ((N.1 7 = a2 → True) ∧ (¬ (N.1 7 = a2) → (bind1 (f_X6_beginAct M N F) (fun z10 => (bind1 (setI N 7 a2) (fun z12 => ((o_X6_endAct M z10 Q (N.1 7)) ∧ (bind1 (f_X6_endAct M z10 Q (N.1 7)) (fun z14 => True)))))))))) ∧ (¬ (a2 < 3) → True))))) ∧ (¬ (a1 = 0) → ((a1 = 1 → ((a2 < 1 → True) ∧ (¬ (a2 < 1) → ((30 < a2 → True) ∧ (¬ (30 < a2) → ((N.1 8 = a2 → True) ∧ (¬ (N.1 8 = a2) → (bind1 (f_X6_beginAct M N F) (fun z24 => (bind1 (setI N 8 a2) (fun z26 => ((o_X6_endAct M z24 Q (N.1 8)) ∧ (bind1 (f_X6_endAct M z24 Q (N.1 8)) (fun z28 => True)))))))))))))) ∧ (¬ (a1 = 1) → True))))
set_option maxRecDepth 100000 in
set_option maxHeartbeats 8000000 in
theorem c_X6_set (l : Launch) (g : GT) (h : Nat) (ad : Nat → Nat) (M : CS) (adN : Nat → Nat) (N : CS) (adF : Nat → Nat) (F : CS) (adQ : Nat → Nat) (Q : HS) (a1 : Int32) (a2 : Int32) (hok : o_X6_set M N F Q a1 a2) : CW l yX6_set (.code yX6_set cX6_set 5 (some .int)) 5 g [.ref h, .int a1, .int a2] (cat [wMa h ad M, wSt g (ad 0) adN N, wSt g (ad 1) adF F, wHi g (ad 4) adQ Q]) (some (.int (f_X6_set M N F Q a1 a2).1)) (cat [wMa h ad M, wSt g (ad 0) adN (f_X6_set M N F Q a1 a2).2.1, wSt g (ad 1) adF (f_X6_set M N F Q a1 a2).2.2.1, wHi g (ad 4) adQ (f_X6_set M N F Q a1 a2).2.2.2]) := by
  obtain ⟨RES, hRES⟩ : ∃ z, z = (f_X6_set M N F Q a1 a2) := ⟨_, rfl⟩
  rw [← hRES]
  unfold f_X6_set at hRES
  unfold o_X6_set at hok
  refine CWx.of (nL := 5) (ret := (some .int)) (own := RX6) (cc := cX6_set) rfl (by decide) rfl (List.forall_mem_cons.mpr ⟨rfl, (List.forall_mem_cons.mpr ⟨rfl, (List.forall_mem_cons.mpr ⟨rfl, (fun _ h => absurd h List.not_mem_nil)⟩)⟩)⟩) (Nat.le_of_ble_eq_true rfl) ?_
  intro k C B hin hkl hkg
  subst hkl; subst hkg
  refine x_loc2 (L' := [some (.ref h), some (.int a1), some (.int a2), none, none]) rfl ?_
  refine x_iload_n (pc' := 1) C dX6_set_0 rfl rfl rfl ?_
  refine x_if_eq (tgt := 11) (pc' := 4) C dX6_set_1 (by decide) rfl (fun c1 => ?_) (fun c1 => ?_)
  · rw [if_pos c1] at hRES
    replace hok := hok.1 c1
    refine x_iload_n (pc' := 12) C dX6_set_11 rfl rfl rfl ?_
    refine x_if_ne (tgt := 32) (pc' := 15) C dX6_set_12 (by decide) rfl (fun c2 => ?_) (fun c2 => ?_)
    · exact absurd c1 c2
    · refine x_iload_n (pc' := 16) C dX6_set_15 rfl rfl rfl ?_
      refine x_if_lt (tgt := 28) (pc' := 19) C dX6_set_16 (by decide) rfl (fun c3 => ?_) (fun c3 => ?_)
      · rw [if_pos c3] at hRES
        replace hok := hok.1 c3
        refine x_iconst (v := 0) (pc' := 29) C dX6_set_28 rfl (by decide) ?_
        refine x_goto (tgt := 48) C dX6_set_29 (by decide) ?_
        refine x_istore_n (pc' := 49) (L' := [some (.ref h), some (.int a1), some (.int a2), some (.int 0), none]) C dX6_set_48 rfl rfl (Nat.le_of_ble_eq_true rfl) rfl ?_
        refine x_iload_n (pc' := 50) C dX6_set_49 rfl rfl rfl ?_
        refine x_if_ne (tgt := 56) (pc' := 53) C dX6_set_50 (by decide) rfl (fun c4 => absurd c4 (by decide)) (fun c4 => ?_)
        refine x_bipush (v := (-2)) (pc' := 55) C dX6_set_53 rfl (by decide) ?_
        exact x_iret C (Nat.zero_le _) (Nat.zero_le _) dX6_set_55 ⟨by rw [hRES], by rw [hRES]⟩
      · rw [if_neg c3] at hRES
        replace hok := hok.2 c3
        refine x_iload_n (pc' := 20) C dX6_set_19 rfl rfl rfl ?_
        refine x_iconst (v := 3) (pc' := 21) C dX6_set_20 rfl (by decide) ?_
        refine x_icmp_ge (tgt := 28) (pc' := 24) C dX6_set_21 (by decide) rfl (fun c5 => ?_) (fun c5 => ?_)
        · rw [if_neg c5] at hRES
          replace hok := hok.2 c5
          refine x_iconst (v := 0) (pc' := 29) C dX6_set_28 rfl (by decide) ?_
          refine x_goto (tgt := 48) C dX6_set_29 (by decide) ?_
          refine x_istore_n (pc' := 49) (L' := [some (.ref h), some (.int a1), some (.int a2), some (.int 0), none]) C dX6_set_48 rfl rfl (Nat.le_of_ble_eq_true rfl) rfl ?_
          refine x_iload_n (pc' := 50) C dX6_set_49 rfl rfl rfl ?_
          refine x_if_ne (tgt := 56) (pc' := 53) C dX6_set_50 (by decide) rfl (fun c6 => absurd c6 (by decide)) (fun c6 => ?_)
          refine x_bipush (v := (-2)) (pc' := 55) C dX6_set_53 rfl (by decide) ?_
          exact x_iret C (Nat.zero_le _) (Nat.zero_le _) dX6_set_55 ⟨by rw [hRES], by rw [hRES]⟩
        · rw [if_pos c5] at hRES
          replace hok := hok.1 c5
          refine x_iconst (v := 1) (pc' := 25) C dX6_set_24 rfl (by decide) ?_
          refine x_goto (tgt := 48) C dX6_set_25 (by decide) ?_
          refine x_istore_n (pc' := 49) (L' := [some (.ref h), some (.int a1), some (.int a2), some (.int 1), none]) C dX6_set_48 rfl rfl (Nat.le_of_ble_eq_true rfl) rfl ?_
          refine x_iload_n (pc' := 50) C dX6_set_49 rfl rfl rfl ?_
          refine x_if_ne (tgt := 56) (pc' := 53) C dX6_set_50 (by decide) rfl (fun c7 => ?_) (fun c7 => absurd c7 (by decide))
          refine x_iload_n (pc' := 57) C dX6_set_56 rfl rfl rfl ?_
          refine x_if_ne (tgt := 70) (pc' := 60) C dX6_set_57 (by decide) rfl (fun c8 => ?_) (fun c8 => ?_)
          · exact absurd c2 c8
          · refine x_aload_n (pc' := 61) C dX6_set_60 rfl rfl rfl ?_
            refine x_get (pc' := 64) (v := .ref (ad 0)) C 0 0 inBX6 rfl rfl (by decide) fl_X6_10 rfl rfl dX6_set_61 rfl ?_
            refine x_get (pc' := 67) (v := .int (N.1 7)) C 1 7 inBX5 rfl rfl (by decide) fl_X6_103 rfl rfl dX6_set_64 rfl ?_
            refine x_goto (tgt := 77) C dX6_set_67 (by decide) ?_
            refine x_istore (pc' := 79) (L' := [some (.ref h), some (.int a1), some (.int a2), some (.int 1), some (.int (N.1 7))]) C dX6_set_77 rfl (Nat.le_of_ble_eq_true rfl) rfl ?_
            refine x_iload (pc' := 81) C dX6_set_79 rfl rfl ?_
            refine x_iload_n (pc' := 82) C dX6_set_81 rfl rfl rfl ?_
            refine x_icmp_ne (tgt := 88) (pc' := 85) C dX6_set_82 (by decide) rfl (fun c9 => ?_) (fun c9 => ?_)
            · rw [if_neg c9] at hRES
              replace hok := hok.2 c9
              refine x_aload_n (pc' := 89) C dX6_set_88 rfl rfl rfl ?_
              obtain ⟨z10, ez10⟩ : ∃ z, z = (f_X6_beginAct M N F) := ⟨_, rfl⟩
              replace hRES := bd hRES z10 ez10
              replace hok := bdP hok z10 ez10
              have hc := c_X6_beginAct (kl k) (kg k) h ad M adN N adF F
              rw [← ez10] at hc
              refine x_catWV (st := []) (st2 := []) (pc' := 92) (wcs := [wMa h ad M, wSt (kg k) (ad 0) adN N, wSt (kg k) (ad 1) adF F]) (wrs := [wHi (kg k) (ad 4) adQ Q]) (wcs' := [wMa h ad M, wSt (kg k) (ad 0) adN N, wSt (kg k) (ad 1) adF z10]) C B [wMa h ad M, wSt (kg k) (ad 0) adN N, wSt (kg k) (ad 1) adF z10, wHi (kg k) (ad 4) adQ Q] hc rfl rfl cw_X6_43 ok_X6_beginAct rfl (by decide) rfl rfl [3, 0, 1, 2] [1, 2, 3, 0] rfl rfl rfl rfl rfl (Nat.le_of_ble_eq_true rfl) (Nat.zero_le _) (Nat.zero_le _) rfl dX6_set_89 rfl rfl ?_
              refine x_iload_n (pc' := 93) C dX6_set_92 rfl rfl rfl ?_
              refine x_if_ne (tgt := 107) (pc' := 96) C dX6_set_93 (by decide) rfl (fun c11 => ?_) (fun c11 => ?_)
              · exact absurd c8 c11
              · refine x_aload_n (pc' := 97) C dX6_set_96 rfl rfl rfl ?_
                refine x_get (pc' := 100) (v := .ref (ad 0)) C 0 0 inBX6 rfl rfl (by decide) fl_X6_10 rfl rfl dX6_set_97 rfl ?_
                refine x_iload_n (pc' := 101) C dX6_set_100 rfl rfl rfl ?_
                obtain ⟨z12, ez12⟩ : ∃ z, z = (setI N 7 a2) := ⟨_, rfl⟩
                replace hRES := bd hRES z12 ez12
                replace hok := bdP hok z12 ez12
                refine x_put (pc' := 104) (w' := cat [wMa h ad M, wSt (kg k) (ad 0) adN z12, wSt (kg k) (ad 1) adF z10, wHi (kg k) (ad 4) adQ Q]) (ty := .int) C B 1 7 inBX5 tyX5 tyX5_ok nmX5 rfl rfl (by decide) fl_X6_103 rfl rfl rfl rfl rfl (Nat.le_of_ble_eq_true rfl) dX6_set_101 rfl (by rw [ez12]; rfl) ?_
                refine x_goto (tgt := 115) C dX6_set_104 (by decide) ?_
                refine x_aload_n (pc' := 116) C dX6_set_115 rfl rfl rfl ?_
                refine x_iload (pc' := 118) C dX6_set_116 rfl rfl ?_
                obtain ⟨hn13, hok⟩ := hok
                obtain ⟨z14, ez14⟩ : ∃ z, z = (f_X6_endAct M z10 Q (N.1 7)) := ⟨_, rfl⟩
                replace hRES := bd hRES z14 ez14
                replace hok := bdP hok z14 ez14
                have hc := c_X6_endAct (kl k) (kg k) h ad M adF z10 adQ Q (N.1 7) hn13
                rw [← ez14] at hc
                refine x_catWV (st := []) (st2 := [.int z14.1]) (pc' := 121) (wcs := [wMa h ad M, wSt (kg k) (ad 1) adF z10, wHi (kg k) (ad 4) adQ Q]) (wrs := [wSt (kg k) (ad 0) adN z12]) (wcs' := [wMa h ad M, wSt (kg k) (ad 1) adF z10, wHi (kg k) (ad 4) adQ z14.2]) C B [wMa h ad M, wSt (kg k) (ad 0) adN z12, wSt (kg k) (ad 1) adF z10, wHi (kg k) (ad 4) adQ z14.2] hc rfl rfl cw_X6_50 ok_X6_endAct rfl (by decide) rfl rfl [1, 0, 2, 3] [1, 0, 2, 3] rfl rfl rfl rfl rfl (Nat.le_of_ble_eq_true rfl) (Nat.zero_le _) (Nat.zero_le _) rfl dX6_set_118 rfl rfl ?_
                exact x_iret C (Nat.zero_le _) (Nat.zero_le _) dX6_set_121 ⟨by rw [hRES], by rw [hRES]⟩
            · rw [if_pos c9] at hRES
              replace hok := hok.1 c9
              refine x_bipush (v := (-5)) (pc' := 87) C dX6_set_85 rfl (by decide) ?_
              exact x_iret C (Nat.zero_le _) (Nat.zero_le _) dX6_set_87 ⟨by rw [hRES], by rw [hRES]⟩
  · rw [if_neg c1] at hRES
    replace hok := hok.2 c1
    refine x_iload_n (pc' := 5) C dX6_set_4 rfl rfl rfl ?_
    refine x_iconst (v := 1) (pc' := 6) C dX6_set_5 rfl (by decide) ?_
    refine x_icmp_eq (tgt := 11) (pc' := 9) C dX6_set_6 (by decide) rfl (fun c15 => ?_) (fun c15 => ?_)
    · rw [if_pos c15] at hRES
      replace hok := hok.1 c15
      refine x_iload_n (pc' := 12) C dX6_set_11 rfl rfl rfl ?_
      refine x_if_ne (tgt := 32) (pc' := 15) C dX6_set_12 (by decide) rfl (fun c16 => ?_) (fun c16 => ?_)
      · refine x_iload_n (pc' := 33) C dX6_set_32 rfl rfl rfl ?_
        refine x_iconst (v := 1) (pc' := 34) C dX6_set_33 rfl (by decide) ?_
        refine x_icmp_lt (tgt := 47) (pc' := 37) C dX6_set_34 (by decide) rfl (fun c17 => ?_) (fun c17 => ?_)
        · rw [if_pos c17] at hRES
          replace hok := hok.1 c17
          refine x_iconst (v := 0) (pc' := 48) C dX6_set_47 rfl (by decide) ?_
          refine x_istore_n (pc' := 49) (L' := [some (.ref h), some (.int a1), some (.int a2), some (.int 0), none]) C dX6_set_48 rfl rfl (Nat.le_of_ble_eq_true rfl) rfl ?_
          refine x_iload_n (pc' := 50) C dX6_set_49 rfl rfl rfl ?_
          refine x_if_ne (tgt := 56) (pc' := 53) C dX6_set_50 (by decide) rfl (fun c18 => absurd c18 (by decide)) (fun c18 => ?_)
          refine x_bipush (v := (-2)) (pc' := 55) C dX6_set_53 rfl (by decide) ?_
          exact x_iret C (Nat.zero_le _) (Nat.zero_le _) dX6_set_55 ⟨by rw [hRES], by rw [hRES]⟩
        · rw [if_neg c17] at hRES
          replace hok := hok.2 c17
          refine x_iload_n (pc' := 38) C dX6_set_37 rfl rfl rfl ?_
          refine x_bipush (v := 30) (pc' := 40) C dX6_set_38 rfl (by decide) ?_
          refine x_icmp_gt (tgt := 47) (pc' := 43) C dX6_set_40 (by decide) rfl (fun c19 => ?_) (fun c19 => ?_)
          · rw [if_pos c19] at hRES
            replace hok := hok.1 c19
            refine x_iconst (v := 0) (pc' := 48) C dX6_set_47 rfl (by decide) ?_
            refine x_istore_n (pc' := 49) (L' := [some (.ref h), some (.int a1), some (.int a2), some (.int 0), none]) C dX6_set_48 rfl rfl (Nat.le_of_ble_eq_true rfl) rfl ?_
            refine x_iload_n (pc' := 50) C dX6_set_49 rfl rfl rfl ?_
            refine x_if_ne (tgt := 56) (pc' := 53) C dX6_set_50 (by decide) rfl (fun c20 => absurd c20 (by decide)) (fun c20 => ?_)
            refine x_bipush (v := (-2)) (pc' := 55) C dX6_set_53 rfl (by decide) ?_
            exact x_iret C (Nat.zero_le _) (Nat.zero_le _) dX6_set_55 ⟨by rw [hRES], by rw [hRES]⟩
          · rw [if_neg c19] at hRES
            replace hok := hok.2 c19
            refine x_iconst (v := 1) (pc' := 44) C dX6_set_43 rfl (by decide) ?_
            refine x_goto (tgt := 48) C dX6_set_44 (by decide) ?_
            refine x_istore_n (pc' := 49) (L' := [some (.ref h), some (.int a1), some (.int a2), some (.int 1), none]) C dX6_set_48 rfl rfl (Nat.le_of_ble_eq_true rfl) rfl ?_
            refine x_iload_n (pc' := 50) C dX6_set_49 rfl rfl rfl ?_
            refine x_if_ne (tgt := 56) (pc' := 53) C dX6_set_50 (by decide) rfl (fun c21 => ?_) (fun c21 => absurd c21 (by decide))
            refine x_iload_n (pc' := 57) C dX6_set_56 rfl rfl rfl ?_
            refine x_if_ne (tgt := 70) (pc' := 60) C dX6_set_57 (by decide) rfl (fun c22 => ?_) (fun c22 => ?_)
            · refine x_aload_n (pc' := 71) C dX6_set_70 rfl rfl rfl ?_
              refine x_get (pc' := 74) (v := .ref (ad 0)) C 0 0 inBX6 rfl rfl (by decide) fl_X6_10 rfl rfl dX6_set_71 rfl ?_
              refine x_get (pc' := 77) (v := .int (N.1 8)) C 1 8 inBX5 rfl rfl (by decide) fl_X6_107 rfl rfl dX6_set_74 rfl ?_
              refine x_istore (pc' := 79) (L' := [some (.ref h), some (.int a1), some (.int a2), some (.int 1), some (.int (N.1 8))]) C dX6_set_77 rfl (Nat.le_of_ble_eq_true rfl) rfl ?_
              refine x_iload (pc' := 81) C dX6_set_79 rfl rfl ?_
              refine x_iload_n (pc' := 82) C dX6_set_81 rfl rfl rfl ?_
              refine x_icmp_ne (tgt := 88) (pc' := 85) C dX6_set_82 (by decide) rfl (fun c23 => ?_) (fun c23 => ?_)
              · rw [if_neg c23] at hRES
                replace hok := hok.2 c23
                refine x_aload_n (pc' := 89) C dX6_set_88 rfl rfl rfl ?_
                obtain ⟨z24, ez24⟩ : ∃ z, z = (f_X6_beginAct M N F) := ⟨_, rfl⟩
                replace hRES := bd hRES z24 ez24
                replace hok := bdP hok z24 ez24
                have hc := c_X6_beginAct (kl k) (kg k) h ad M adN N adF F
                rw [← ez24] at hc
                refine x_catWV (st := []) (st2 := []) (pc' := 92) (wcs := [wMa h ad M, wSt (kg k) (ad 0) adN N, wSt (kg k) (ad 1) adF F]) (wrs := [wHi (kg k) (ad 4) adQ Q]) (wcs' := [wMa h ad M, wSt (kg k) (ad 0) adN N, wSt (kg k) (ad 1) adF z24]) C B [wMa h ad M, wSt (kg k) (ad 0) adN N, wSt (kg k) (ad 1) adF z24, wHi (kg k) (ad 4) adQ Q] hc rfl rfl cw_X6_43 ok_X6_beginAct rfl (by decide) rfl rfl [3, 0, 1, 2] [1, 2, 3, 0] rfl rfl rfl rfl rfl (Nat.le_of_ble_eq_true rfl) (Nat.zero_le _) (Nat.zero_le _) rfl dX6_set_89 rfl rfl ?_
                refine x_iload_n (pc' := 93) C dX6_set_92 rfl rfl rfl ?_
                refine x_if_ne (tgt := 107) (pc' := 96) C dX6_set_93 (by decide) rfl (fun c25 => ?_) (fun c25 => ?_)
                · refine x_aload_n (pc' := 108) C dX6_set_107 rfl rfl rfl ?_
                  refine x_get (pc' := 111) (v := .ref (ad 0)) C 0 0 inBX6 rfl rfl (by decide) fl_X6_10 rfl rfl dX6_set_108 rfl ?_
                  refine x_iload_n (pc' := 112) C dX6_set_111 rfl rfl rfl ?_
                  obtain ⟨z26, ez26⟩ : ∃ z, z = (setI N 8 a2) := ⟨_, rfl⟩
                  replace hRES := bd hRES z26 ez26
                  replace hok := bdP hok z26 ez26
                  refine x_put (pc' := 115) (w' := cat [wMa h ad M, wSt (kg k) (ad 0) adN z26, wSt (kg k) (ad 1) adF z24, wHi (kg k) (ad 4) adQ Q]) (ty := .int) C B 1 8 inBX5 tyX5 tyX5_ok nmX5 rfl rfl (by decide) fl_X6_107 rfl rfl rfl rfl rfl (Nat.le_of_ble_eq_true rfl) dX6_set_112 rfl (by rw [ez26]; rfl) ?_
                  refine x_aload_n (pc' := 116) C dX6_set_115 rfl rfl rfl ?_
                  refine x_iload (pc' := 118) C dX6_set_116 rfl rfl ?_
                  obtain ⟨hn27, hok⟩ := hok
                  obtain ⟨z28, ez28⟩ : ∃ z, z = (f_X6_endAct M z24 Q (N.1 8)) := ⟨_, rfl⟩
                  replace hRES := bd hRES z28 ez28
                  replace hok := bdP hok z28 ez28
                  have hc := c_X6_endAct (kl k) (kg k) h ad M adF z24 adQ Q (N.1 8) hn27
                  rw [← ez28] at hc
                  refine x_catWV (st := []) (st2 := [.int z28.1]) (pc' := 121) (wcs := [wMa h ad M, wSt (kg k) (ad 1) adF z24, wHi (kg k) (ad 4) adQ Q]) (wrs := [wSt (kg k) (ad 0) adN z26]) (wcs' := [wMa h ad M, wSt (kg k) (ad 1) adF z24, wHi (kg k) (ad 4) adQ z28.2]) C B [wMa h ad M, wSt (kg k) (ad 0) adN z26, wSt (kg k) (ad 1) adF z24, wHi (kg k) (ad 4) adQ z28.2] hc rfl rfl cw_X6_50 ok_X6_endAct rfl (by decide) rfl rfl [1, 0, 2, 3] [1, 0, 2, 3] rfl rfl rfl rfl rfl (Nat.le_of_ble_eq_true rfl) (Nat.zero_le _) (Nat.zero_le _) rfl dX6_set_118 rfl rfl ?_
                  exact x_iret C (Nat.zero_le _) (Nat.zero_le _) dX6_set_121 ⟨by rw [hRES], by rw [hRES]⟩
                · exact absurd c25 c22
              · rw [if_pos c23] at hRES
                replace hok := hok.1 c23
                refine x_bipush (v := (-5)) (pc' := 87) C dX6_set_85 rfl (by decide) ?_
                exact x_iret C (Nat.zero_le _) (Nat.zero_le _) dX6_set_87 ⟨by rw [hRES], by rw [hRES]⟩
            · exact absurd c22 c16
      · exact absurd c16 c1
    · rw [if_neg c15] at hRES
      replace hok := hok.2 c15
      refine x_iconst (v := (-1)) (pc' := 10) C dX6_set_9 rfl (by decide) ?_
      exact x_iret C (Nat.zero_le _) (Nat.zero_le _) dX6_set_10 ⟨by rw [hRES], by rw [hRES]⟩

def f_X6_undo (M : CS) (N : CS) (Q : HS) : Int32 × CS × HS := (bind1 (f_X0_takeLatest Q N) (fun z2 => (if z2.1 = true then (z2.2.1.1.1, z2.2.2, z2.2.1) else ((-5), z2.2.2, z2.2.1))))
def o_X6_undo (M : CS) (N : CS) (Q : HS) : Prop := ((o_X0_takeLatest Q N) ∧ (bind1 (f_X0_takeLatest Q N) (fun z2 => ((z2.1 = true → True) ∧ (¬ (z2.1 = true) → True)))))
set_option maxRecDepth 100000 in
set_option maxHeartbeats 8000000 in
theorem c_X6_undo (l : Launch) (g : GT) (h : Nat) (ad : Nat → Nat) (M : CS) (adN : Nat → Nat) (N : CS) (adQ : Nat → Nat) (Q : HS) (hok : o_X6_undo M N Q) : CW l yX6_undo (.code yX6_undo cX6_undo 1 (some .int)) 4 g [.ref h] (cat [wMa h ad M, wSt g (ad 0) adN N, wHi g (ad 4) adQ Q]) (some (.int (f_X6_undo M N Q).1)) (cat [wMa h ad M, wSt g (ad 0) adN (f_X6_undo M N Q).2.1, wHi g (ad 4) adQ (f_X6_undo M N Q).2.2]) := by
  obtain ⟨RES, hRES⟩ : ∃ z, z = (f_X6_undo M N Q) := ⟨_, rfl⟩
  rw [← hRES]
  unfold f_X6_undo at hRES
  unfold o_X6_undo at hok
  refine CWx.of (nL := 1) (ret := (some .int)) (own := RX6) (cc := cX6_undo) rfl (by decide) rfl (List.forall_mem_cons.mpr ⟨rfl, (fun _ h => absurd h List.not_mem_nil)⟩) (Nat.le_of_ble_eq_true rfl) ?_
  intro k C B hin hkl hkg
  subst hkl; subst hkg
  refine x_loc2 (L' := [some (.ref h)]) rfl ?_
  refine x_aload_n (pc' := 1) C dX6_undo_0 rfl rfl rfl ?_
  refine x_get (pc' := 4) (v := .ref (ad 4)) C 0 4 inBX6 rfl rfl (by decide) fl_X6_25 rfl rfl dX6_undo_1 rfl ?_
  refine x_aload_n (pc' := 5) C dX6_undo_4 rfl rfl rfl ?_
  refine x_get (pc' := 8) (v := .ref (ad 0)) C 0 0 inBX6 rfl rfl (by decide) fl_X6_10 rfl rfl dX6_undo_5 rfl ?_
  obtain ⟨hn1, hok⟩ := hok
  obtain ⟨z2, ez2⟩ : ∃ z, z = (f_X0_takeLatest Q N) := ⟨_, rfl⟩
  replace hRES := bd hRES z2 ez2
  replace hok := bdP hok z2 ez2
  have hc := c_X0_takeLatest (kl k) (kg k) (ad 4) adQ Q (ad 0) adN N hn1
  rw [← ez2] at hc
  refine x_catWV (st := []) (st2 := [.int (bI z2.1)]) (pc' := 11) (wcs := [wHi (kg k) (ad 4) adQ Q, wSt (kg k) (ad 0) adN N]) (wrs := [wMa h ad M]) (wcs' := [wHi (kg k) (ad 4) adQ z2.2.1, wSt (kg k) (ad 0) adN z2.2.2]) C B [wMa h ad M, wSt (kg k) (ad 0) adN z2.2.2, wHi (kg k) (ad 4) adQ z2.2.1] hc (by simp only [cat, List.append_nil]) (by simp only [cat, List.append_nil]) cw_X6_147 ok_X0_takeLatest rfl (by decide) rfl rfl [0, 2, 1] [0, 2, 1] rfl rfl rfl rfl rfl (Nat.le_of_ble_eq_true rfl) (Nat.zero_le _) (Nat.zero_le _) rfl dX6_undo_8 rfl rfl ?_
  refine x_ifB_eq (tgt := 24) (pc' := 14) C dX6_undo_11 (by decide) rfl (fun c3 => ?_) (fun c3 => ?_)
  · rw [if_neg c3] at hRES
    replace hok := hok.2 c3
    refine x_bipush (v := (-5)) (pc' := 26) C dX6_undo_24 rfl (by decide) ?_
    exact x_iret C (Nat.zero_le _) (Nat.zero_le _) dX6_undo_26 ⟨by rw [hRES], by rw [hRES]⟩
  · rw [if_pos c3] at hRES
    replace hok := hok.1 c3
    refine x_aload_n (pc' := 15) C dX6_undo_14 rfl rfl rfl ?_
    refine x_get (pc' := 18) (v := .ref (ad 4)) C 0 4 inBX6 rfl rfl (by decide) fl_X6_25 rfl rfl dX6_undo_15 rfl ?_
    refine x_get (pc' := 21) (v := .int z2.2.1.1.1) C 6 1 inBX0 rfl rfl (by decide) fl_X6_151 rfl rfl dX6_undo_18 rfl ?_
    refine x_goto (tgt := 26) C dX6_undo_21 (by decide) ?_
    exact x_iret C (Nat.zero_le _) (Nat.zero_le _) dX6_undo_26 ⟨by rw [hRES], by rw [hRES]⟩

def f_X6_tellOfTree (M : CS) (N : CS) (E : CS) (a1 : Int32) (a2 : Int32) : Int32 × CS := (bind1 (f_X2_spread E N a1) (fun z1 => (if a2 = 3 then ((f_X2_rootReached z1 N), z1) else (if a2 = 4 then ((f_X2_stepsTo z1 (f_X2_rootReached z1 N)), z1) else (if a2 = 5 then ((f_X2_cellsTo z1 (f_X2_rootReached z1 N)), z1) else (if a2 = 6 then ((-2), z1) else (if a2 = 7 then ((-2), z1) else (if a2 = 8 then ((f_J6_bitCount_0f7a4 (z1.1 0)), z1) else (if a2 = 9 then ((1 + (f_X2_cellsTo z1 (f_X2_rootReached z1 N))), z1) else ((-2), z1))))))))))
set_option maxRecDepth 100000 in
set_option maxHeartbeats 8000000 in
theorem c_X6_tellOfTree (l : Launch) (g : GT) (h : Nat) (ad : Nat → Nat) (M : CS) (adN : Nat → Nat) (N : CS) (adE : Nat → Nat) (E : CS) (a1 : Int32) (a2 : Int32) : CW l yX6_tellOfTree (.code yX6_tellOfTree cX6_tellOfTree 4 (some .int)) 4 g [.ref h, .int a1, .int a2] (cat [wMa h ad M, wSt g (ad 0) adN N, wRe g (ad 5) adE E]) (some (.int (f_X6_tellOfTree M N E a1 a2).1)) (cat [wMa h ad M, wSt g (ad 0) adN N, wRe g (ad 5) adE (f_X6_tellOfTree M N E a1 a2).2]) := by
  obtain ⟨RES, hRES⟩ : ∃ z, z = (f_X6_tellOfTree M N E a1 a2) := ⟨_, rfl⟩
  rw [← hRES]
  unfold f_X6_tellOfTree at hRES
  refine CWx.of (nL := 4) (ret := (some .int)) (own := RX6) (cc := cX6_tellOfTree) rfl (by decide) rfl (List.forall_mem_cons.mpr ⟨rfl, (List.forall_mem_cons.mpr ⟨rfl, (List.forall_mem_cons.mpr ⟨rfl, (fun _ h => absurd h List.not_mem_nil)⟩)⟩)⟩) (Nat.le_of_ble_eq_true rfl) ?_
  intro k C B hin hkl hkg
  subst hkl; subst hkg
  refine x_loc2 (L' := [some (.ref h), some (.int a1), some (.int a2), none]) rfl ?_
  refine x_aload_n (pc' := 1) C dX6_tellOfTree_0 rfl rfl rfl ?_
  refine x_get (pc' := 4) (v := .ref (ad 5)) C 0 5 inBX6 rfl rfl (by decide) fl_X6_32 rfl rfl dX6_tellOfTree_1 rfl ?_
  refine x_aload_n (pc' := 5) C dX6_tellOfTree_4 rfl rfl rfl ?_
  refine x_get (pc' := 8) (v := .ref (ad 0)) C 0 0 inBX6 rfl rfl (by decide) fl_X6_10 rfl rfl dX6_tellOfTree_5 rfl ?_
  refine x_iload_n (pc' := 9) C dX6_tellOfTree_8 rfl rfl rfl ?_
  obtain ⟨z1, ez1⟩ : ∃ z, z = (f_X2_spread E N a1) := ⟨_, rfl⟩
  replace hRES := bd hRES z1 ez1
  have hc := c_X2_spread (kl k) (kg k) (ad 5) adE E (ad 0) adN N a1
  rw [← ez1] at hc
  refine x_catWV (st := []) (st2 := []) (pc' := 12) (wcs := [wRe (kg k) (ad 5) adE E, wSt (kg k) (ad 0) adN N]) (wrs := [wMa h ad M]) (wcs' := [wRe (kg k) (ad 5) adE z1, wSt (kg k) (ad 0) adN N]) C B [wMa h ad M, wSt (kg k) (ad 0) adN N, wRe (kg k) (ad 5) adE z1] hc (by simp only [cat, List.append_nil]) (by simp only [cat, List.append_nil]) cw_X6_174 ok_X2_spread rfl (by decide) rfl rfl [0, 2, 1] [0, 2, 1] rfl rfl rfl rfl rfl (Nat.le_of_ble_eq_true rfl) (Nat.zero_le _) (Nat.zero_le _) rfl dX6_tellOfTree_9 rfl rfl ?_
  refine x_aload_n (pc' := 13) C dX6_tellOfTree_12 rfl rfl rfl ?_
  refine x_get (pc' := 16) (v := .ref (ad 5)) C 0 5 inBX6 rfl rfl (by decide) fl_X6_32 rfl rfl dX6_tellOfTree_13 rfl ?_
  refine x_aload_n (pc' := 17) C dX6_tellOfTree_16 rfl rfl rfl ?_
  refine x_get (pc' := 20) (v := .ref (ad 0)) C 0 0 inBX6 rfl rfl (by decide) fl_X6_10 rfl rfl dX6_tellOfTree_17 rfl ?_
  refine x_catRV (st := []) (st2 := [.int (f_X2_rootReached z1 N)]) (pc' := 23) (wcs := [wRe (kg k) (ad 5) adE z1, wSt (kg k) (ad 0) adN N]) C (c_X2_rootReached (kl k) (kg k) (ad 5) adE z1 (ad 0) adN N) (by simp only [cat, List.append_nil]) cw_X6_178 ok_X2_rootReached rfl (by decide) rfl rfl [2, 1] rfl rfl rfl (Nat.le_of_ble_eq_true rfl) (Nat.zero_le _) (Nat.zero_le _) rfl dX6_tellOfTree_20 rfl rfl ?_
  refine x_istore_n (pc' := 24) (L' := [some (.ref h), some (.int a1), some (.int a2), some (.int (f_X2_rootReached z1 N))]) C dX6_tellOfTree_23 rfl rfl (Nat.le_of_ble_eq_true rfl) rfl ?_
  refine x_iload_n (pc' := 25) C dX6_tellOfTree_24 rfl rfl rfl ?_
  by_cases c2 : a2 = 3
  · rw [if_pos c2] at hRES
    refine x_tabIn (off := 43) (tgt := 68) C (3) dX6_tellOfTree_25 (by rw [c2]; decide) (by decide) (by decide) rfl (by decide) ?_
    refine x_iload_n (pc' := 69) C dX6_tellOfTree_68 rfl rfl rfl ?_
    exact x_iret C (Nat.zero_le _) (Nat.zero_le _) dX6_tellOfTree_69 ⟨by rw [hRES], by rw [hRES]⟩
  · rw [if_neg c2] at hRES
    by_cases c3 : a2 = 4
    · rw [if_pos c3] at hRES
      refine x_tabIn (off := 45) (tgt := 70) C (4) dX6_tellOfTree_25 (by rw [c3]; decide) (by decide) (by decide) rfl (by decide) ?_
      refine x_aload_n (pc' := 71) C dX6_tellOfTree_70 rfl rfl rfl ?_
      refine x_get (pc' := 74) (v := .ref (ad 5)) C 0 5 inBX6 rfl rfl (by decide) fl_X6_32 rfl rfl dX6_tellOfTree_71 rfl ?_
      refine x_iload_n (pc' := 75) C dX6_tellOfTree_74 rfl rfl rfl ?_
      refine x_catRV (st := []) (st2 := [.int (f_X2_stepsTo z1 (f_X2_rootReached z1 N))]) (pc' := 78) (wcs := [wRe (kg k) (ad 5) adE z1]) C (c_X2_stepsTo (kl k) (kg k) (ad 5) adE z1 (f_X2_rootReached z1 N)) (by simp only [cat, List.append_nil]) cw_X6_182 ok_X2_stepsTo rfl (by decide) rfl rfl [2] rfl rfl rfl (Nat.le_of_ble_eq_true rfl) (Nat.zero_le _) (Nat.zero_le _) rfl dX6_tellOfTree_75 rfl rfl ?_
      exact x_iret C (Nat.zero_le _) (Nat.zero_le _) dX6_tellOfTree_78 ⟨by rw [hRES], by rw [hRES]⟩
    · rw [if_neg c3] at hRES
      by_cases c4 : a2 = 5
      · rw [if_pos c4] at hRES
        refine x_tabIn (off := 54) (tgt := 79) C (5) dX6_tellOfTree_25 (by rw [c4]; decide) (by decide) (by decide) rfl (by decide) ?_
        refine x_aload_n (pc' := 80) C dX6_tellOfTree_79 rfl rfl rfl ?_
        refine x_get (pc' := 83) (v := .ref (ad 5)) C 0 5 inBX6 rfl rfl (by decide) fl_X6_32 rfl rfl dX6_tellOfTree_80 rfl ?_
        refine x_iload_n (pc' := 84) C dX6_tellOfTree_83 rfl rfl rfl ?_
        refine x_catRV (st := []) (st2 := [.int (f_X2_cellsTo z1 (f_X2_rootReached z1 N))]) (pc' := 87) (wcs := [wRe (kg k) (ad 5) adE z1]) C (c_X2_cellsTo (kl k) (kg k) (ad 5) adE z1 (f_X2_rootReached z1 N)) (by simp only [cat, List.append_nil]) cw_X6_257 ok_X2_cellsTo rfl (by decide) rfl rfl [2] rfl rfl rfl (Nat.le_of_ble_eq_true rfl) (Nat.zero_le _) (Nat.zero_le _) rfl dX6_tellOfTree_84 rfl rfl ?_
        exact x_iret C (Nat.zero_le _) (Nat.zero_le _) dX6_tellOfTree_87 ⟨by rw [hRES], by rw [hRES]⟩
      · rw [if_neg c4] at hRES
        by_cases c5 : a2 = 6
        · rw [if_pos c5] at hRES
          refine x_tabIn (off := 85) (tgt := 110) C (6) dX6_tellOfTree_25 (by rw [c5]; decide) (by decide) (by decide) rfl (by decide) ?_
          refine x_bipush (v := (-2)) (pc' := 112) C dX6_tellOfTree_110 rfl (by decide) ?_
          exact x_iret C (Nat.zero_le _) (Nat.zero_le _) dX6_tellOfTree_112 ⟨by rw [hRES], by rw [hRES]⟩
        · rw [if_neg c5] at hRES
          by_cases c6 : a2 = 7
          · rw [if_pos c6] at hRES
            refine x_tabIn (off := 85) (tgt := 110) C (7) dX6_tellOfTree_25 (by rw [c6]; decide) (by decide) (by decide) rfl (by decide) ?_
            refine x_bipush (v := (-2)) (pc' := 112) C dX6_tellOfTree_110 rfl (by decide) ?_
            exact x_iret C (Nat.zero_le _) (Nat.zero_le _) dX6_tellOfTree_112 ⟨by rw [hRES], by rw [hRES]⟩
          · rw [if_neg c6] at hRES
            by_cases c7 : a2 = 8
            · rw [if_pos c7] at hRES
              refine x_tabIn (off := 63) (tgt := 88) C (8) dX6_tellOfTree_25 (by rw [c7]; decide) (by decide) (by decide) rfl (by decide) ?_
              refine x_aload_n (pc' := 89) C dX6_tellOfTree_88 rfl rfl rfl ?_
              refine x_get (pc' := 92) (v := .ref (ad 5)) C 0 5 inBX6 rfl rfl (by decide) fl_X6_32 rfl rfl dX6_tellOfTree_89 rfl ?_
              refine x_get (pc' := 95) (v := .int (z1.1 0)) C 6 0 inBX2 rfl rfl (by decide) fl_X6_208 rfl rfl dX6_tellOfTree_92 rfl ?_
              refine x_RS (st := []) (st2 := [.int (f_J6_bitCount_0f7a4 (z1.1 0))]) (pc' := 98) C (c_J6_bitCount_0f7a4 (kl k) (kg k) (z1.1 0)) cw_X6_191 ok_J6_bitCount_0f7a4 (by decide) [] rfl rfl rfl (Nat.le_of_ble_eq_true rfl) (Nat.zero_le _) (Nat.zero_le _) rfl dX6_tellOfTree_95 rfl rfl ?_
              exact x_iret C (Nat.zero_le _) (Nat.zero_le _) dX6_tellOfTree_98 ⟨by rw [hRES], by rw [hRES]⟩
            · rw [if_neg c7] at hRES
              by_cases c8 : a2 = 9
              · rw [if_pos c8] at hRES
                refine x_tabIn (off := 74) (tgt := 99) C (9) dX6_tellOfTree_25 (by rw [c8]; decide) (by decide) (by decide) rfl (by decide) ?_
                refine x_iconst (v := 1) (pc' := 100) C dX6_tellOfTree_99 rfl (by decide) ?_
                refine x_aload_n (pc' := 101) C dX6_tellOfTree_100 rfl rfl rfl ?_
                refine x_get (pc' := 104) (v := .ref (ad 5)) C 0 5 inBX6 rfl rfl (by decide) fl_X6_32 rfl rfl dX6_tellOfTree_101 rfl ?_
                refine x_iload_n (pc' := 105) C dX6_tellOfTree_104 rfl rfl rfl ?_
                refine x_catRV (st := [.int 1]) (st2 := [.int (f_X2_cellsTo z1 (f_X2_rootReached z1 N)), .int 1]) (pc' := 108) (wcs := [wRe (kg k) (ad 5) adE z1]) C (c_X2_cellsTo (kl k) (kg k) (ad 5) adE z1 (f_X2_rootReached z1 N)) (by simp only [cat, List.append_nil]) cw_X6_257 ok_X2_cellsTo rfl (by decide) rfl rfl [2] rfl rfl rfl (Nat.le_of_ble_eq_true rfl) (Nat.zero_le _) (Nat.zero_le _) rfl dX6_tellOfTree_105 rfl rfl ?_
                refine x_iadd (pc' := 109) (v := (1 + (f_X2_cellsTo z1 (f_X2_rootReached z1 N)))) C dX6_tellOfTree_108 rfl rfl ?_
                exact x_iret C (Nat.zero_le _) (Nat.zero_le _) dX6_tellOfTree_109 ⟨by rw [hRES], by rw [hRES]⟩
              · rw [if_neg c8] at hRES
                refine x_tabOut (tgt := 110) C dX6_tellOfTree_25 (by have hc2 := lv_neT (a := 3) c2 (by decide); have hc3 := lv_neT (a := 4) c3 (by decide); have hc4 := lv_neT (a := 5) c4 (by decide); have hc5 := lv_neT (a := 6) c5 (by decide); have hc6 := lv_neT (a := 7) c6 (by decide); have hc7 := lv_neT (a := 8) c7 (by decide); have hc8 := lv_neT (a := 9) c8 (by decide); omega) (by decide) ?_
                refine x_bipush (v := (-2)) (pc' := 112) C dX6_tellOfTree_110 rfl (by decide) ?_
                exact x_iret C (Nat.zero_le _) (Nat.zero_le _) dX6_tellOfTree_112 ⟨by rw [hRES], by rw [hRES]⟩

def f_X6_version (M : CS) (N : CS) (E : CS) (a1 : Int32) (a2 : Int32) : Int32 × CS := (if (f_X5_has N a1) = true then (if a2 = 0 then (if a1 = 0 then ((-5), E) else ((f_X5_sourceOf N a1), E)) else (if a2 = 1 then (if (f_X5_isKept N a1) = true then (1, E) else (0, E)) else (if a2 = 2 then ((f_X5_differenceOf N a1), E) else (if a2 = 3 then (bind1 (f_X6_tellOfTree M N E a1 a2) (fun z8 => (z8.1, z8.2))) else (if a2 = 4 then (bind1 (f_X6_tellOfTree M N E a1 a2) (fun z10 => (z10.1, z10.2))) else (if a2 = 5 then (bind1 (f_X6_tellOfTree M N E a1 a2) (fun z12 => (z12.1, z12.2))) else (if a2 = 6 then ((f_X5_askedFor N a1), E) else (if a2 = 7 then ((f_X5_madeOf N a1), E) else (bind1 (f_X6_tellOfTree M N E a1 a2) (fun z15 => (z15.1, z15.2))))))))))) else ((-1), E))
set_option maxRecDepth 100000 in
set_option maxHeartbeats 8000000 in
theorem c_X6_version (l : Launch) (g : GT) (h : Nat) (ad : Nat → Nat) (M : CS) (adN : Nat → Nat) (N : CS) (adE : Nat → Nat) (E : CS) (a1 : Int32) (a2 : Int32) : CW l yX6_version (.code yX6_version cX6_version 3 (some .int)) 5 g [.ref h, .int a1, .int a2] (cat [wMa h ad M, wSt g (ad 0) adN N, wRe g (ad 5) adE E]) (some (.int (f_X6_version M N E a1 a2).1)) (cat [wMa h ad M, wSt g (ad 0) adN N, wRe g (ad 5) adE (f_X6_version M N E a1 a2).2]) := by
  obtain ⟨RES, hRES⟩ : ∃ z, z = (f_X6_version M N E a1 a2) := ⟨_, rfl⟩
  rw [← hRES]
  unfold f_X6_version at hRES
  refine CWx.of (nL := 3) (ret := (some .int)) (own := RX6) (cc := cX6_version) rfl (by decide) rfl (List.forall_mem_cons.mpr ⟨rfl, (List.forall_mem_cons.mpr ⟨rfl, (List.forall_mem_cons.mpr ⟨rfl, (fun _ h => absurd h List.not_mem_nil)⟩)⟩)⟩) (Nat.le_of_ble_eq_true rfl) ?_
  intro k C B hin hkl hkg
  subst hkl; subst hkg
  refine x_loc2 (L' := [some (.ref h), some (.int a1), some (.int a2)]) rfl ?_
  refine x_aload_n (pc' := 1) C dX6_version_0 rfl rfl rfl ?_
  refine x_get (pc' := 4) (v := .ref (ad 0)) C 0 0 inBX6 rfl rfl (by decide) fl_X6_10 rfl rfl dX6_version_1 rfl ?_
  refine x_iload_n (pc' := 5) C dX6_version_4 rfl rfl rfl ?_
  refine x_catRV (st := []) (st2 := [.int (bI (f_X5_has N a1))]) (pc' := 8) (wcs := [wSt (kg k) (ad 0) adN N]) C (c_X5_has (kl k) (kg k) (ad 0) adN N a1) (by simp only [cat, List.append_nil]) cw_X6_57 ok_X5_has rfl (by decide) rfl rfl [1] rfl rfl rfl (Nat.le_of_ble_eq_true rfl) (Nat.zero_le _) (Nat.zero_le _) rfl dX6_version_5 rfl rfl ?_
  refine x_ifB_ne (tgt := 13) (pc' := 11) C dX6_version_8 (by decide) rfl (fun c1 => ?_) (fun c1 => ?_)
  · rw [if_pos c1] at hRES
    refine x_iload_n (pc' := 14) C dX6_version_13 rfl rfl rfl ?_
    by_cases c2 : a2 = 0
    · rw [if_pos c2] at hRES
      refine x_tabIn (off := 46) (tgt := 60) C (0) dX6_version_14 (by rw [c2]; decide) (by decide) (by decide) rfl (by decide) ?_
      refine x_iload_n (pc' := 61) C dX6_version_60 rfl rfl rfl ?_
      refine x_if_ne (tgt := 69) (pc' := 64) C dX6_version_61 (by decide) rfl (fun c3 => ?_) (fun c3 => ?_)
      · rw [if_neg c3] at hRES
        refine x_aload_n (pc' := 70) C dX6_version_69 rfl rfl rfl ?_
        refine x_get (pc' := 73) (v := .ref (ad 0)) C 0 0 inBX6 rfl rfl (by decide) fl_X6_10 rfl rfl dX6_version_70 rfl ?_
        refine x_iload_n (pc' := 74) C dX6_version_73 rfl rfl rfl ?_
        refine x_catRV (st := []) (st2 := [.int (f_X5_sourceOf N a1)]) (pc' := 77) (wcs := [wSt (kg k) (ad 0) adN N]) C (c_X5_sourceOf (kl k) (kg k) (ad 0) adN N a1) (by simp only [cat, List.append_nil]) cw_X6_70 ok_X5_sourceOf rfl (by decide) rfl rfl [1] rfl rfl rfl (Nat.le_of_ble_eq_true rfl) (Nat.zero_le _) (Nat.zero_le _) rfl dX6_version_74 rfl rfl ?_
        exact x_iret C (Nat.zero_le _) (Nat.zero_le _) dX6_version_77 ⟨by rw [hRES], by rw [hRES]⟩
      · rw [if_pos c3] at hRES
        refine x_bipush (v := (-5)) (pc' := 66) C dX6_version_64 rfl (by decide) ?_
        refine x_goto (tgt := 77) C dX6_version_66 (by decide) ?_
        exact x_iret C (Nat.zero_le _) (Nat.zero_le _) dX6_version_77 ⟨by rw [hRES], by rw [hRES]⟩
    · rw [if_neg c2] at hRES
      by_cases c4 : a2 = 1
      · rw [if_pos c4] at hRES
        refine x_tabIn (off := 64) (tgt := 78) C (1) dX6_version_14 (by rw [c4]; decide) (by decide) (by decide) rfl (by decide) ?_
        refine x_aload_n (pc' := 79) C dX6_version_78 rfl rfl rfl ?_
        refine x_get (pc' := 82) (v := .ref (ad 0)) C 0 0 inBX6 rfl rfl (by decide) fl_X6_10 rfl rfl dX6_version_79 rfl ?_
        refine x_iload_n (pc' := 83) C dX6_version_82 rfl rfl rfl ?_
        refine x_catRV (st := []) (st2 := [.int (bI (f_X5_isKept N a1))]) (pc' := 86) (wcs := [wSt (kg k) (ad 0) adN N]) C (c_X5_isKept (kl k) (kg k) (ad 0) adN N a1) (by simp only [cat, List.append_nil]) cw_X6_67 ok_X5_isKept rfl (by decide) rfl rfl [1] rfl rfl rfl (Nat.le_of_ble_eq_true rfl) (Nat.zero_le _) (Nat.zero_le _) rfl dX6_version_83 rfl rfl ?_
        refine x_ifB_eq (tgt := 93) (pc' := 89) C dX6_version_86 (by decide) rfl (fun c5 => ?_) (fun c5 => ?_)
        · rw [if_neg c5] at hRES
          refine x_iconst (v := 0) (pc' := 94) C dX6_version_93 rfl (by decide) ?_
          exact x_iret C (Nat.zero_le _) (Nat.zero_le _) dX6_version_94 ⟨by rw [hRES], by rw [hRES]⟩
        · rw [if_pos c5] at hRES
          refine x_iconst (v := 1) (pc' := 90) C dX6_version_89 rfl (by decide) ?_
          refine x_goto (tgt := 94) C dX6_version_90 (by decide) ?_
          exact x_iret C (Nat.zero_le _) (Nat.zero_le _) dX6_version_94 ⟨by rw [hRES], by rw [hRES]⟩
      · rw [if_neg c4] at hRES
        by_cases c6 : a2 = 2
        · rw [if_pos c6] at hRES
          refine x_tabIn (off := 81) (tgt := 95) C (2) dX6_version_14 (by rw [c6]; decide) (by decide) (by decide) rfl (by decide) ?_
          refine x_aload_n (pc' := 96) C dX6_version_95 rfl rfl rfl ?_
          refine x_get (pc' := 99) (v := .ref (ad 0)) C 0 0 inBX6 rfl rfl (by decide) fl_X6_10 rfl rfl dX6_version_96 rfl ?_
          refine x_iload_n (pc' := 100) C dX6_version_99 rfl rfl rfl ?_
          refine x_catRV (st := []) (st2 := [.int (f_X5_differenceOf N a1)]) (pc' := 103) (wcs := [wSt (kg k) (ad 0) adN N]) C (c_X5_differenceOf (kl k) (kg k) (ad 0) adN N a1) (by simp only [cat, List.append_nil]) cw_X6_165 ok_X5_differenceOf rfl (by decide) rfl rfl [1] rfl rfl rfl (Nat.le_of_ble_eq_true rfl) (Nat.zero_le _) (Nat.zero_le _) rfl dX6_version_100 rfl rfl ?_
          exact x_iret C (Nat.zero_le _) (Nat.zero_le _) dX6_version_103 ⟨by rw [hRES], by rw [hRES]⟩
        · rw [if_neg c6] at hRES
          by_cases c7 : a2 = 3
          · rw [if_pos c7] at hRES
            refine x_tabIn (off := 108) (tgt := 122) C (3) dX6_version_14 (by rw [c7]; decide) (by decide) (by decide) rfl (by decide) ?_
            refine x_aload_n (pc' := 123) C dX6_version_122 rfl rfl rfl ?_
            refine x_iload_n (pc' := 124) C dX6_version_123 rfl rfl rfl ?_
            refine x_iload_n (pc' := 125) C dX6_version_124 rfl rfl rfl ?_
            obtain ⟨z8, ez8⟩ : ∃ z, z = (f_X6_tellOfTree M N E a1 a2) := ⟨_, rfl⟩
            replace hRES := bd hRES z8 ez8
            have hc := c_X6_tellOfTree (kl k) (kg k) h ad M adN N adE E a1 a2
            rw [← ez8] at hc
            refine x_catWV (st := []) (st2 := [.int z8.1]) (pc' := 128) (wcs := [wMa h ad M, wSt (kg k) (ad 0) adN N, wRe (kg k) (ad 5) adE E]) (wrs := []) (wcs' := [wMa h ad M, wSt (kg k) (ad 0) adN N, wRe (kg k) (ad 5) adE z8.2]) C B [wMa h ad M, wSt (kg k) (ad 0) adN N, wRe (kg k) (ad 5) adE z8.2] hc rfl rfl cw_X6_171 ok_X6_tellOfTree rfl (by decide) rfl rfl [0, 1, 2] [0, 1, 2] rfl rfl rfl rfl rfl (Nat.le_of_ble_eq_true rfl) (Nat.zero_le _) (Nat.zero_le _) rfl dX6_version_125 rfl rfl ?_
            exact x_iret C (Nat.zero_le _) (Nat.zero_le _) dX6_version_128 ⟨by rw [hRES], by rw [hRES]⟩
          · rw [if_neg c7] at hRES
            by_cases c9 : a2 = 4
            · rw [if_pos c9] at hRES
              refine x_tabIn (off := 108) (tgt := 122) C (4) dX6_version_14 (by rw [c9]; decide) (by decide) (by decide) rfl (by decide) ?_
              refine x_aload_n (pc' := 123) C dX6_version_122 rfl rfl rfl ?_
              refine x_iload_n (pc' := 124) C dX6_version_123 rfl rfl rfl ?_
              refine x_iload_n (pc' := 125) C dX6_version_124 rfl rfl rfl ?_
              obtain ⟨z10, ez10⟩ : ∃ z, z = (f_X6_tellOfTree M N E a1 a2) := ⟨_, rfl⟩
              replace hRES := bd hRES z10 ez10
              have hc := c_X6_tellOfTree (kl k) (kg k) h ad M adN N adE E a1 a2
              rw [← ez10] at hc
              refine x_catWV (st := []) (st2 := [.int z10.1]) (pc' := 128) (wcs := [wMa h ad M, wSt (kg k) (ad 0) adN N, wRe (kg k) (ad 5) adE E]) (wrs := []) (wcs' := [wMa h ad M, wSt (kg k) (ad 0) adN N, wRe (kg k) (ad 5) adE z10.2]) C B [wMa h ad M, wSt (kg k) (ad 0) adN N, wRe (kg k) (ad 5) adE z10.2] hc rfl rfl cw_X6_171 ok_X6_tellOfTree rfl (by decide) rfl rfl [0, 1, 2] [0, 1, 2] rfl rfl rfl rfl rfl (Nat.le_of_ble_eq_true rfl) (Nat.zero_le _) (Nat.zero_le _) rfl dX6_version_125 rfl rfl ?_
              exact x_iret C (Nat.zero_le _) (Nat.zero_le _) dX6_version_128 ⟨by rw [hRES], by rw [hRES]⟩
            · rw [if_neg c9] at hRES
              by_cases c11 : a2 = 5
              · rw [if_pos c11] at hRES
                refine x_tabIn (off := 108) (tgt := 122) C (5) dX6_version_14 (by rw [c11]; decide) (by decide) (by decide) rfl (by decide) ?_
                refine x_aload_n (pc' := 123) C dX6_version_122 rfl rfl rfl ?_
                refine x_iload_n (pc' := 124) C dX6_version_123 rfl rfl rfl ?_
                refine x_iload_n (pc' := 125) C dX6_version_124 rfl rfl rfl ?_
                obtain ⟨z12, ez12⟩ : ∃ z, z = (f_X6_tellOfTree M N E a1 a2) := ⟨_, rfl⟩
                replace hRES := bd hRES z12 ez12
                have hc := c_X6_tellOfTree (kl k) (kg k) h ad M adN N adE E a1 a2
                rw [← ez12] at hc
                refine x_catWV (st := []) (st2 := [.int z12.1]) (pc' := 128) (wcs := [wMa h ad M, wSt (kg k) (ad 0) adN N, wRe (kg k) (ad 5) adE E]) (wrs := []) (wcs' := [wMa h ad M, wSt (kg k) (ad 0) adN N, wRe (kg k) (ad 5) adE z12.2]) C B [wMa h ad M, wSt (kg k) (ad 0) adN N, wRe (kg k) (ad 5) adE z12.2] hc rfl rfl cw_X6_171 ok_X6_tellOfTree rfl (by decide) rfl rfl [0, 1, 2] [0, 1, 2] rfl rfl rfl rfl rfl (Nat.le_of_ble_eq_true rfl) (Nat.zero_le _) (Nat.zero_le _) rfl dX6_version_125 rfl rfl ?_
                exact x_iret C (Nat.zero_le _) (Nat.zero_le _) dX6_version_128 ⟨by rw [hRES], by rw [hRES]⟩
              · rw [if_neg c11] at hRES
                by_cases c13 : a2 = 6
                · rw [if_pos c13] at hRES
                  refine x_tabIn (off := 90) (tgt := 104) C (6) dX6_version_14 (by rw [c13]; decide) (by decide) (by decide) rfl (by decide) ?_
                  refine x_aload_n (pc' := 105) C dX6_version_104 rfl rfl rfl ?_
                  refine x_get (pc' := 108) (v := .ref (ad 0)) C 0 0 inBX6 rfl rfl (by decide) fl_X6_10 rfl rfl dX6_version_105 rfl ?_
                  refine x_iload_n (pc' := 109) C dX6_version_108 rfl rfl rfl ?_
                  refine x_catRV (st := []) (st2 := [.int (f_X5_askedFor N a1)]) (pc' := 112) (wcs := [wSt (kg k) (ad 0) adN N]) C (c_X5_askedFor (kl k) (kg k) (ad 0) adN N a1) (by simp only [cat, List.append_nil]) cw_X6_168 ok_X5_askedFor rfl (by decide) rfl rfl [1] rfl rfl rfl (Nat.le_of_ble_eq_true rfl) (Nat.zero_le _) (Nat.zero_le _) rfl dX6_version_109 rfl rfl ?_
                  exact x_iret C (Nat.zero_le _) (Nat.zero_le _) dX6_version_112 ⟨by rw [hRES], by rw [hRES]⟩
                · rw [if_neg c13] at hRES
                  by_cases c14 : a2 = 7
                  · rw [if_pos c14] at hRES
                    refine x_tabIn (off := 99) (tgt := 113) C (7) dX6_version_14 (by rw [c14]; decide) (by decide) (by decide) rfl (by decide) ?_
                    refine x_aload_n (pc' := 114) C dX6_version_113 rfl rfl rfl ?_
                    refine x_get (pc' := 117) (v := .ref (ad 0)) C 0 0 inBX6 rfl rfl (by decide) fl_X6_10 rfl rfl dX6_version_114 rfl ?_
                    refine x_iload_n (pc' := 118) C dX6_version_117 rfl rfl rfl ?_
                    refine x_catRV (st := []) (st2 := [.int (f_X5_madeOf N a1)]) (pc' := 121) (wcs := [wSt (kg k) (ad 0) adN N]) C (c_X5_madeOf (kl k) (kg k) (ad 0) adN N a1) (by simp only [cat, List.append_nil]) cw_X6_61 ok_X5_madeOf rfl (by decide) rfl rfl [1] rfl rfl rfl (Nat.le_of_ble_eq_true rfl) (Nat.zero_le _) (Nat.zero_le _) rfl dX6_version_118 rfl rfl ?_
                    exact x_iret C (Nat.zero_le _) (Nat.zero_le _) dX6_version_121 ⟨by rw [hRES], by rw [hRES]⟩
                  · rw [if_neg c14] at hRES
                    refine x_tabOut (tgt := 122) C dX6_version_14 (by have hc2 := lv_neT (a := 0) c2 (by decide); have hc4 := lv_neT (a := 1) c4 (by decide); have hc6 := lv_neT (a := 2) c6 (by decide); have hc7 := lv_neT (a := 3) c7 (by decide); have hc9 := lv_neT (a := 4) c9 (by decide); have hc11 := lv_neT (a := 5) c11 (by decide); have hc13 := lv_neT (a := 6) c13 (by decide); have hc14 := lv_neT (a := 7) c14 (by decide); omega) (by decide) ?_
                    refine x_aload_n (pc' := 123) C dX6_version_122 rfl rfl rfl ?_
                    refine x_iload_n (pc' := 124) C dX6_version_123 rfl rfl rfl ?_
                    refine x_iload_n (pc' := 125) C dX6_version_124 rfl rfl rfl ?_
                    obtain ⟨z15, ez15⟩ : ∃ z, z = (f_X6_tellOfTree M N E a1 a2) := ⟨_, rfl⟩
                    replace hRES := bd hRES z15 ez15
                    have hc := c_X6_tellOfTree (kl k) (kg k) h ad M adN N adE E a1 a2
                    rw [← ez15] at hc
                    refine x_catWV (st := []) (st2 := [.int z15.1]) (pc' := 128) (wcs := [wMa h ad M, wSt (kg k) (ad 0) adN N, wRe (kg k) (ad 5) adE E]) (wrs := []) (wcs' := [wMa h ad M, wSt (kg k) (ad 0) adN N, wRe (kg k) (ad 5) adE z15.2]) C B [wMa h ad M, wSt (kg k) (ad 0) adN N, wRe (kg k) (ad 5) adE z15.2] hc rfl rfl cw_X6_171 ok_X6_tellOfTree rfl (by decide) rfl rfl [0, 1, 2] [0, 1, 2] rfl rfl rfl rfl rfl (Nat.le_of_ble_eq_true rfl) (Nat.zero_le _) (Nat.zero_le _) rfl dX6_version_125 rfl rfl ?_
                    exact x_iret C (Nat.zero_le _) (Nat.zero_le _) dX6_version_128 ⟨by rw [hRES], by rw [hRES]⟩
  · rw [if_neg c1] at hRES
    refine x_iconst (v := (-1)) (pc' := 12) C dX6_version_11 rfl (by decide) ?_
    exact x_iret C (Nat.zero_le _) (Nat.zero_le _) dX6_version_12 ⟨by rw [hRES], by rw [hRES]⟩

def f_X6_way (M : CS) (N : CS) (E : CS) (a1 : Int32) (a2 : Int32) : Int32 × CS := (if (f_X5_has N a1) = true then (if a2 < 0 then ((-2), E) else (bind1 (f_X2_spread E N a1) (fun z3 => (if (f_X2_stepsTo z3 (f_X2_rootReached z3 N)) < a2 then ((-5), z3) else ((f_X2_towardsStart z3 (f_X2_rootReached z3 N) a2), z3))))) else ((-1), E))
set_option maxRecDepth 100000 in
set_option maxHeartbeats 8000000 in
theorem c_X6_way (l : Launch) (g : GT) (h : Nat) (ad : Nat → Nat) (M : CS) (adN : Nat → Nat) (N : CS) (adE : Nat → Nat) (E : CS) (a1 : Int32) (a2 : Int32) : CW l yX6_way (.code yX6_way cX6_way 4 (some .int)) 4 g [.ref h, .int a1, .int a2] (cat [wMa h ad M, wSt g (ad 0) adN N, wRe g (ad 5) adE E]) (some (.int (f_X6_way M N E a1 a2).1)) (cat [wMa h ad M, wSt g (ad 0) adN N, wRe g (ad 5) adE (f_X6_way M N E a1 a2).2]) := by
  obtain ⟨RES, hRES⟩ : ∃ z, z = (f_X6_way M N E a1 a2) := ⟨_, rfl⟩
  rw [← hRES]
  unfold f_X6_way at hRES
  refine CWx.of (nL := 4) (ret := (some .int)) (own := RX6) (cc := cX6_way) rfl (by decide) rfl (List.forall_mem_cons.mpr ⟨rfl, (List.forall_mem_cons.mpr ⟨rfl, (List.forall_mem_cons.mpr ⟨rfl, (fun _ h => absurd h List.not_mem_nil)⟩)⟩)⟩) (Nat.le_of_ble_eq_true rfl) ?_
  intro k C B hin hkl hkg
  subst hkl; subst hkg
  refine x_loc2 (L' := [some (.ref h), some (.int a1), some (.int a2), none]) rfl ?_
  refine x_aload_n (pc' := 1) C dX6_way_0 rfl rfl rfl ?_
  refine x_get (pc' := 4) (v := .ref (ad 0)) C 0 0 inBX6 rfl rfl (by decide) fl_X6_10 rfl rfl dX6_way_1 rfl ?_
  refine x_iload_n (pc' := 5) C dX6_way_4 rfl rfl rfl ?_
  refine x_catRV (st := []) (st2 := [.int (bI (f_X5_has N a1))]) (pc' := 8) (wcs := [wSt (kg k) (ad 0) adN N]) C (c_X5_has (kl k) (kg k) (ad 0) adN N a1) (by simp only [cat, List.append_nil]) cw_X6_57 ok_X5_has rfl (by decide) rfl rfl [1] rfl rfl rfl (Nat.le_of_ble_eq_true rfl) (Nat.zero_le _) (Nat.zero_le _) rfl dX6_way_5 rfl rfl ?_
  refine x_ifB_ne (tgt := 13) (pc' := 11) C dX6_way_8 (by decide) rfl (fun c1 => ?_) (fun c1 => ?_)
  · rw [if_pos c1] at hRES
    refine x_iload_n (pc' := 14) C dX6_way_13 rfl rfl rfl ?_
    refine x_if_ge (tgt := 20) (pc' := 17) C dX6_way_14 (by decide) rfl (fun c2 => ?_) (fun c2 => ?_)
    · rw [if_neg c2] at hRES
      refine x_aload_n (pc' := 21) C dX6_way_20 rfl rfl rfl ?_
      refine x_get (pc' := 24) (v := .ref (ad 5)) C 0 5 inBX6 rfl rfl (by decide) fl_X6_32 rfl rfl dX6_way_21 rfl ?_
      refine x_aload_n (pc' := 25) C dX6_way_24 rfl rfl rfl ?_
      refine x_get (pc' := 28) (v := .ref (ad 0)) C 0 0 inBX6 rfl rfl (by decide) fl_X6_10 rfl rfl dX6_way_25 rfl ?_
      refine x_iload_n (pc' := 29) C dX6_way_28 rfl rfl rfl ?_
      obtain ⟨z3, ez3⟩ : ∃ z, z = (f_X2_spread E N a1) := ⟨_, rfl⟩
      replace hRES := bd hRES z3 ez3
      have hc := c_X2_spread (kl k) (kg k) (ad 5) adE E (ad 0) adN N a1
      rw [← ez3] at hc
      refine x_catWV (st := []) (st2 := []) (pc' := 32) (wcs := [wRe (kg k) (ad 5) adE E, wSt (kg k) (ad 0) adN N]) (wrs := [wMa h ad M]) (wcs' := [wRe (kg k) (ad 5) adE z3, wSt (kg k) (ad 0) adN N]) C B [wMa h ad M, wSt (kg k) (ad 0) adN N, wRe (kg k) (ad 5) adE z3] hc (by simp only [cat, List.append_nil]) (by simp only [cat, List.append_nil]) cw_X6_174 ok_X2_spread rfl (by decide) rfl rfl [0, 2, 1] [0, 2, 1] rfl rfl rfl rfl rfl (Nat.le_of_ble_eq_true rfl) (Nat.zero_le _) (Nat.zero_le _) rfl dX6_way_29 rfl rfl ?_
      refine x_aload_n (pc' := 33) C dX6_way_32 rfl rfl rfl ?_
      refine x_get (pc' := 36) (v := .ref (ad 5)) C 0 5 inBX6 rfl rfl (by decide) fl_X6_32 rfl rfl dX6_way_33 rfl ?_
      refine x_aload_n (pc' := 37) C dX6_way_36 rfl rfl rfl ?_
      refine x_get (pc' := 40) (v := .ref (ad 0)) C 0 0 inBX6 rfl rfl (by decide) fl_X6_10 rfl rfl dX6_way_37 rfl ?_
      refine x_catRV (st := []) (st2 := [.int (f_X2_rootReached z3 N)]) (pc' := 43) (wcs := [wRe (kg k) (ad 5) adE z3, wSt (kg k) (ad 0) adN N]) C (c_X2_rootReached (kl k) (kg k) (ad 5) adE z3 (ad 0) adN N) (by simp only [cat, List.append_nil]) cw_X6_178 ok_X2_rootReached rfl (by decide) rfl rfl [2, 1] rfl rfl rfl (Nat.le_of_ble_eq_true rfl) (Nat.zero_le _) (Nat.zero_le _) rfl dX6_way_40 rfl rfl ?_
      refine x_istore_n (pc' := 44) (L' := [some (.ref h), some (.int a1), some (.int a2), some (.int (f_X2_rootReached z3 N))]) C dX6_way_43 rfl rfl (Nat.le_of_ble_eq_true rfl) rfl ?_
      refine x_iload_n (pc' := 45) C dX6_way_44 rfl rfl rfl ?_
      refine x_aload_n (pc' := 46) C dX6_way_45 rfl rfl rfl ?_
      refine x_get (pc' := 49) (v := .ref (ad 5)) C 0 5 inBX6 rfl rfl (by decide) fl_X6_32 rfl rfl dX6_way_46 rfl ?_
      refine x_iload_n (pc' := 50) C dX6_way_49 rfl rfl rfl ?_
      refine x_catRV (st := [.int a2]) (st2 := [.int (f_X2_stepsTo z3 (f_X2_rootReached z3 N)), .int a2]) (pc' := 53) (wcs := [wRe (kg k) (ad 5) adE z3]) C (c_X2_stepsTo (kl k) (kg k) (ad 5) adE z3 (f_X2_rootReached z3 N)) (by simp only [cat, List.append_nil]) cw_X6_182 ok_X2_stepsTo rfl (by decide) rfl rfl [2] rfl rfl rfl (Nat.le_of_ble_eq_true rfl) (Nat.zero_le _) (Nat.zero_le _) rfl dX6_way_50 rfl rfl ?_
      refine x_icmp_le (tgt := 61) (pc' := 56) C dX6_way_53 (by decide) rfl (fun c4 => ?_) (fun c4 => ?_)
      · rw [if_neg c4] at hRES
        refine x_aload_n (pc' := 62) C dX6_way_61 rfl rfl rfl ?_
        refine x_get (pc' := 65) (v := .ref (ad 5)) C 0 5 inBX6 rfl rfl (by decide) fl_X6_32 rfl rfl dX6_way_62 rfl ?_
        refine x_iload_n (pc' := 66) C dX6_way_65 rfl rfl rfl ?_
        refine x_iload_n (pc' := 67) C dX6_way_66 rfl rfl rfl ?_
        refine x_catRV (st := []) (st2 := [.int (f_X2_towardsStart z3 (f_X2_rootReached z3 N) a2)]) (pc' := 70) (wcs := [wRe (kg k) (ad 5) adE z3]) C (c_X2_towardsStart (kl k) (kg k) (ad 5) adE z3 (f_X2_rootReached z3 N) a2) (by simp only [cat, List.append_nil]) cw_X6_185 ok_X2_towardsStart rfl (by decide) rfl rfl [2] rfl rfl rfl (Nat.le_of_ble_eq_true rfl) (Nat.zero_le _) (Nat.zero_le _) rfl dX6_way_67 rfl rfl ?_
        exact x_iret C (Nat.zero_le _) (Nat.zero_le _) dX6_way_70 ⟨by rw [hRES], by rw [hRES]⟩
      · rw [if_pos c4] at hRES
        refine x_bipush (v := (-5)) (pc' := 58) C dX6_way_56 rfl (by decide) ?_
        refine x_goto (tgt := 70) C dX6_way_58 (by decide) ?_
        exact x_iret C (Nat.zero_le _) (Nat.zero_le _) dX6_way_70 ⟨by rw [hRES], by rw [hRES]⟩
    · rw [if_pos c2] at hRES
      refine x_bipush (v := (-2)) (pc' := 19) C dX6_way_17 rfl (by decide) ?_
      exact x_iret C (Nat.zero_le _) (Nat.zero_le _) dX6_way_19 ⟨by rw [hRES], by rw [hRES]⟩
  · rw [if_neg c1] at hRES
    refine x_iconst (v := (-1)) (pc' := 12) C dX6_way_11 rfl (by decide) ?_
    exact x_iret C (Nat.zero_le _) (Nat.zero_le _) dX6_way_12 ⟨by rw [hRES], by rw [hRES]⟩

def f_X6_unlike (M : CS) (N : CS) (a1 : Int32) (a2 : Int32) : Int32 := (if (f_X5_has N a1) = true then (if (f_X5_has N a2) = true then (f_J6_bitCount_0f7a4 (f_X5_unlikeCells N a1 a2)) else (-1)) else (-1))
set_option maxRecDepth 100000 in
set_option maxHeartbeats 8000000 in
theorem c_X6_unlike (l : Launch) (g : GT) (h : Nat) (ad : Nat → Nat) (M : CS) (adN : Nat → Nat) (N : CS) (a1 : Int32) (a2 : Int32) : CR l yX6_unlike (.code yX6_unlike cX6_unlike 3 (some .int)) 3 g [.ref h, .int a1, .int a2] (cat [wMa h ad M, wSt g (ad 0) adN N]) (some (.int (f_X6_unlike M N a1 a2))) := by
  obtain ⟨RES, hRES⟩ : ∃ z, z = (f_X6_unlike M N a1 a2) := ⟨_, rfl⟩
  rw [← hRES]
  unfold f_X6_unlike at hRES
  refine CRx.of (nL := 3) (ret := (some .int)) (own := RX6) (cc := cX6_unlike) rfl (by decide) rfl (List.forall_mem_cons.mpr ⟨rfl, (List.forall_mem_cons.mpr ⟨rfl, (List.forall_mem_cons.mpr ⟨rfl, (fun _ h => absurd h List.not_mem_nil)⟩)⟩)⟩) (Nat.le_of_ble_eq_true rfl) ?_
  intro k C hkl hkg
  subst hkl; subst hkg
  refine x_loc2 (L' := [some (.ref h), some (.int a1), some (.int a2)]) rfl ?_
  refine x_aload_n (pc' := 1) C dX6_unlike_0 rfl rfl rfl ?_
  refine x_get (pc' := 4) (v := .ref (ad 0)) C 0 0 inBX6 rfl rfl (by decide) fl_X6_10 rfl rfl dX6_unlike_1 rfl ?_
  refine x_iload_n (pc' := 5) C dX6_unlike_4 rfl rfl rfl ?_
  refine x_catRV (st := []) (st2 := [.int (bI (f_X5_has N a1))]) (pc' := 8) (wcs := [wSt (kg k) (ad 0) adN N]) C (c_X5_has (kl k) (kg k) (ad 0) adN N a1) (by simp only [cat, List.append_nil]) cw_X6_57 ok_X5_has rfl (by decide) rfl rfl [1] rfl rfl rfl (Nat.le_of_ble_eq_true rfl) (Nat.zero_le _) (Nat.zero_le _) rfl dX6_unlike_5 rfl rfl ?_
  refine x_ifB_eq (tgt := 22) (pc' := 11) C dX6_unlike_8 (by decide) rfl (fun c1 => ?_) (fun c1 => ?_)
  · rw [if_neg c1] at hRES
    refine x_iconst (v := (-1)) (pc' := 23) C dX6_unlike_22 rfl (by decide) ?_
    exact x_iret C (Nat.zero_le _) (Nat.zero_le _) dX6_unlike_23 (by rw [hRES])
  · rw [if_pos c1] at hRES
    refine x_aload_n (pc' := 12) C dX6_unlike_11 rfl rfl rfl ?_
    refine x_get (pc' := 15) (v := .ref (ad 0)) C 0 0 inBX6 rfl rfl (by decide) fl_X6_10 rfl rfl dX6_unlike_12 rfl ?_
    refine x_iload_n (pc' := 16) C dX6_unlike_15 rfl rfl rfl ?_
    refine x_catRV (st := []) (st2 := [.int (bI (f_X5_has N a2))]) (pc' := 19) (wcs := [wSt (kg k) (ad 0) adN N]) C (c_X5_has (kl k) (kg k) (ad 0) adN N a2) (by simp only [cat, List.append_nil]) cw_X6_57 ok_X5_has rfl (by decide) rfl rfl [1] rfl rfl rfl (Nat.le_of_ble_eq_true rfl) (Nat.zero_le _) (Nat.zero_le _) rfl dX6_unlike_16 rfl rfl ?_
    refine x_ifB_ne (tgt := 24) (pc' := 22) C dX6_unlike_19 (by decide) rfl (fun c2 => ?_) (fun c2 => ?_)
    · rw [if_pos c2] at hRES
      refine x_aload_n (pc' := 25) C dX6_unlike_24 rfl rfl rfl ?_
      refine x_get (pc' := 28) (v := .ref (ad 0)) C 0 0 inBX6 rfl rfl (by decide) fl_X6_10 rfl rfl dX6_unlike_25 rfl ?_
      refine x_iload_n (pc' := 29) C dX6_unlike_28 rfl rfl rfl ?_
      refine x_iload_n (pc' := 30) C dX6_unlike_29 rfl rfl rfl ?_
      refine x_catRV (st := []) (st2 := [.int (f_X5_unlikeCells N a1 a2)]) (pc' := 33) (wcs := [wSt (kg k) (ad 0) adN N]) C (c_X5_unlikeCells (kl k) (kg k) (ad 0) adN N a1 a2) (by simp only [cat, List.append_nil]) cw_X6_188 ok_X5_unlikeCells rfl (by decide) rfl rfl [1] rfl rfl rfl (Nat.le_of_ble_eq_true rfl) (Nat.zero_le _) (Nat.zero_le _) rfl dX6_unlike_30 rfl rfl ?_
      refine x_RS (st := []) (st2 := [.int (f_J6_bitCount_0f7a4 (f_X5_unlikeCells N a1 a2))]) (pc' := 36) C (c_J6_bitCount_0f7a4 (kl k) (kg k) (f_X5_unlikeCells N a1 a2)) cw_X6_191 ok_J6_bitCount_0f7a4 (by decide) [] rfl rfl rfl (Nat.le_of_ble_eq_true rfl) (Nat.zero_le _) (Nat.zero_le _) rfl dX6_unlike_33 rfl rfl ?_
      exact x_iret C (Nat.zero_le _) (Nat.zero_le _) dX6_unlike_36 (by rw [hRES])
    · rw [if_neg c2] at hRES
      refine x_iconst (v := (-1)) (pc' := 23) C dX6_unlike_22 rfl (by decide) ?_
      exact x_iret C (Nat.zero_le _) (Nat.zero_le _) dX6_unlike_23 (by rw [hRES])

def k_X6_common_72 (x4_72 : Int32) : Int32 := x4_72
def l_X6_common_39 (N : CS) (a2 : Int32) : Nat → Int32 → Nat → Int32
  | 0, _, _ => 0
  | n39 + 1, x4_39, i5_39 => (if i5_39 < 24 then (if (f_X4_isIn (f_X5_ancestors N a2) x4_39) = true then (k_X6_common_72 x4_39) else (l_X6_common_39 N a2 n39 (f_X5_sourceOf N x4_39) (i5_39 + 1))) else (k_X6_common_72 x4_39))
def f_X6_common (M : CS) (N : CS) (a1 : Int32) (a2 : Int32) : Int32 := (if (f_X5_has N a1) = true then (if (f_X5_has N a2) = true then (l_X6_common_39 N a2 25 a1 0) else (-1)) else (-1))
set_option maxRecDepth 100000 in
set_option maxHeartbeats 8000000 in
theorem c_X6_common (l : Launch) (g : GT) (h : Nat) (ad : Nat → Nat) (M : CS) (adN : Nat → Nat) (N : CS) (a1 : Int32) (a2 : Int32) : CR l yX6_common (.code yX6_common cX6_common 6 (some .int)) 3 g [.ref h, .int a1, .int a2] (cat [wMa h ad M, wSt g (ad 0) adN N]) (some (.int (f_X6_common M N a1 a2))) := by
  obtain ⟨RES, hRES⟩ : ∃ z, z = (f_X6_common M N a1 a2) := ⟨_, rfl⟩
  rw [← hRES]
  unfold f_X6_common at hRES
  refine CRx.of (nL := 6) (ret := (some .int)) (own := RX6) (cc := cX6_common) rfl (by decide) rfl (List.forall_mem_cons.mpr ⟨rfl, (List.forall_mem_cons.mpr ⟨rfl, (List.forall_mem_cons.mpr ⟨rfl, (fun _ h => absurd h List.not_mem_nil)⟩)⟩)⟩) (Nat.le_of_ble_eq_true rfl) ?_
  intro k C hkl hkg
  subst hkl; subst hkg
  refine x_loc2 (L' := [some (.ref h), some (.int a1), some (.int a2), none, none, none]) rfl ?_
  refine x_aload_n (pc' := 1) C dX6_common_0 rfl rfl rfl ?_
  refine x_get (pc' := 4) (v := .ref (ad 0)) C 0 0 inBX6 rfl rfl (by decide) fl_X6_10 rfl rfl dX6_common_1 rfl ?_
  refine x_iload_n (pc' := 5) C dX6_common_4 rfl rfl rfl ?_
  refine x_catRV (st := []) (st2 := [.int (bI (f_X5_has N a1))]) (pc' := 8) (wcs := [wSt (kg k) (ad 0) adN N]) C (c_X5_has (kl k) (kg k) (ad 0) adN N a1) (by simp only [cat, List.append_nil]) cw_X6_57 ok_X5_has rfl (by decide) rfl rfl [1] rfl rfl rfl (Nat.le_of_ble_eq_true rfl) (Nat.zero_le _) (Nat.zero_le _) rfl dX6_common_5 rfl rfl ?_
  refine x_ifB_eq (tgt := 22) (pc' := 11) C dX6_common_8 (by decide) rfl (fun c1 => ?_) (fun c1 => ?_)
  · rw [if_neg c1] at hRES
    refine x_iconst (v := (-1)) (pc' := 23) C dX6_common_22 rfl (by decide) ?_
    exact x_iret C (Nat.zero_le _) (Nat.zero_le _) dX6_common_23 (by rw [hRES])
  · rw [if_pos c1] at hRES
    refine x_aload_n (pc' := 12) C dX6_common_11 rfl rfl rfl ?_
    refine x_get (pc' := 15) (v := .ref (ad 0)) C 0 0 inBX6 rfl rfl (by decide) fl_X6_10 rfl rfl dX6_common_12 rfl ?_
    refine x_iload_n (pc' := 16) C dX6_common_15 rfl rfl rfl ?_
    refine x_catRV (st := []) (st2 := [.int (bI (f_X5_has N a2))]) (pc' := 19) (wcs := [wSt (kg k) (ad 0) adN N]) C (c_X5_has (kl k) (kg k) (ad 0) adN N a2) (by simp only [cat, List.append_nil]) cw_X6_57 ok_X5_has rfl (by decide) rfl rfl [1] rfl rfl rfl (Nat.le_of_ble_eq_true rfl) (Nat.zero_le _) (Nat.zero_le _) rfl dX6_common_16 rfl rfl ?_
    refine x_ifB_ne (tgt := 24) (pc' := 22) C dX6_common_19 (by decide) rfl (fun c2 => ?_) (fun c2 => ?_)
    · rw [if_pos c2] at hRES
      refine x_aload_n (pc' := 25) C dX6_common_24 rfl rfl rfl ?_
      refine x_get (pc' := 28) (v := .ref (ad 0)) C 0 0 inBX6 rfl rfl (by decide) fl_X6_10 rfl rfl dX6_common_25 rfl ?_
      refine x_iload_n (pc' := 29) C dX6_common_28 rfl rfl rfl ?_
      refine x_catRV (st := []) (st2 := [.int (f_X5_ancestors N a2)]) (pc' := 32) (wcs := [wSt (kg k) (ad 0) adN N]) C (c_X5_ancestors (kl k) (kg k) (ad 0) adN N a2) (by simp only [cat, List.append_nil]) cw_X6_196 ok_X5_ancestors rfl (by decide) rfl rfl [1] rfl rfl rfl (Nat.le_of_ble_eq_true rfl) (Nat.zero_le _) (Nat.zero_le _) rfl dX6_common_29 rfl rfl ?_
      refine x_istore_n (pc' := 33) (L' := [some (.ref h), some (.int a1), some (.int a2), some (.int (f_X5_ancestors N a2)), none, none]) C dX6_common_32 rfl rfl (Nat.le_of_ble_eq_true rfl) rfl ?_
      refine x_iload_n (pc' := 34) C dX6_common_33 rfl rfl rfl ?_
      refine x_istore (pc' := 36) (L' := [some (.ref h), some (.int a1), some (.int a2), some (.int (f_X5_ancestors N a2)), some (.int a1), none]) C dX6_common_34 rfl (Nat.le_of_ble_eq_true rfl) rfl ?_
      refine x_iconst (v := 0) (pc' := 37) C dX6_common_36 rfl (by decide) ?_
      refine x_istore (pc' := 39) (L' := [some (.ref h), some (.int a1), some (.int a2), some (.int (f_X5_ancestors N a2)), some (.int a1), some (.int 0)]) C dX6_common_37 rfl (Nat.le_of_ble_eq_true rfl) rfl ?_
      have cont72 : ∀ (x4_72 : Int32), RES = k_X6_common_72 x4_72 → X k 0 0 (cat [wMa h ad M, wSt (kg k) (ad 0) adN N]) 72 [none, none, none, none, some (.int x4_72), none] [] := by
        intro x4_72 hRES
        unfold k_X6_common_72 at hRES
        refine x_iload (pc' := 74) C dX6_common_72 rfl rfl ?_
        exact x_iret C (Nat.zero_le _) (Nat.zero_le _) dX6_common_74 (by rw [hRES])
      have loop39 : ∀ (n39 : Nat) (x4_39 : Int32) (i5_39 : Nat), i5_39 ≤ 24 → 24 < i5_39 + n39 → RES = l_X6_common_39 N a2 n39 x4_39 i5_39 → X k 0 0 (cat [wMa h ad M, wSt (kg k) (ad 0) adN N]) 39 [some (.ref h), none, none, some (.int (f_X5_ancestors N a2)), some (.int x4_39), some (.int (nI i5_39))] [] := by
        intro n39
        induction n39 with
        | zero =>
          intro x4_39 i5_39 hb39 hf39 hRES
          omega
        | succ n39 ih39 =>
          intro x4_39 i5_39 hb39 hf39 hRES
          rw [l_X6_common_39] at hRES
          refine x_iload (pc' := 41) C dX6_common_39 rfl rfl ?_
          refine x_bipush (v := 24) (pc' := 43) C dX6_common_41 rfl (by decide) ?_
          refine x_icmpN_ge (tgt := 72) (pc' := 46) C i5_39 24 dX6_common_43 (by decide) rfl (by omega) (by omega) (fun c3 => ?_) (fun c3 => ?_)
          · rw [if_neg c3] at hRES
            refine x_forget (L' := [none, none, none, none, some (.int x4_39), none]) [2] rfl rfl ?_
            exact cont72 x4_39 hRES
          · rw [if_pos c3] at hRES
            refine x_iload_n (pc' := 47) C dX6_common_46 rfl rfl rfl ?_
            refine x_iload (pc' := 49) C dX6_common_47 rfl rfl ?_
            refine x_RS (st := []) (st2 := [.int (bI (f_X4_isIn (f_X5_ancestors N a2) x4_39))]) (pc' := 52) C (c_X4_isIn (kl k) (kg k) (f_X5_ancestors N a2) x4_39) cw_X6_199 ok_X4_isIn (by decide) [] rfl rfl rfl (Nat.le_of_ble_eq_true rfl) (Nat.zero_le _) (Nat.zero_le _) rfl dX6_common_49 rfl rfl ?_
            refine x_ifB_ne (tgt := 72) (pc' := 55) C dX6_common_52 (by decide) rfl (fun c4 => ?_) (fun c4 => ?_)
            · rw [if_pos c4] at hRES
              refine x_forget (L' := [none, none, none, none, some (.int x4_39), none]) [2] rfl rfl ?_
              exact cont72 x4_39 hRES
            · rw [if_neg c4] at hRES
              refine x_aload_n (pc' := 56) C dX6_common_55 rfl rfl rfl ?_
              refine x_get (pc' := 59) (v := .ref (ad 0)) C 0 0 inBX6 rfl rfl (by decide) fl_X6_10 rfl rfl dX6_common_56 rfl ?_
              refine x_iload (pc' := 61) C dX6_common_59 rfl rfl ?_
              refine x_catRV (st := []) (st2 := [.int (f_X5_sourceOf N x4_39)]) (pc' := 64) (wcs := [wSt (kg k) (ad 0) adN N]) C (c_X5_sourceOf (kl k) (kg k) (ad 0) adN N x4_39) (by simp only [cat, List.append_nil]) cw_X6_70 ok_X5_sourceOf rfl (by decide) rfl rfl [1] rfl rfl rfl (Nat.le_of_ble_eq_true rfl) (Nat.zero_le _) (Nat.zero_le _) rfl dX6_common_61 rfl rfl ?_
              refine x_istore (pc' := 66) (L' := [some (.ref h), none, none, some (.int (f_X5_ancestors N a2)), some (.int (f_X5_sourceOf N x4_39)), some (.int (nI i5_39))]) C dX6_common_64 rfl (Nat.le_of_ble_eq_true rfl) rfl ?_
              refine x_iinc (pc' := 69) (v := (nI (i5_39 + 1))) (L' := [some (.ref h), none, none, some (.int (f_X5_ancestors N a2)), some (.int (f_X5_sourceOf N x4_39)), some (.int (nI (i5_39 + 1)))]) C dX6_common_66 rfl rfl (nI_add i5_39 1) (Nat.le_of_ble_eq_true rfl) rfl ?_
              refine x_goto (tgt := 39) C dX6_common_69 (by decide) ?_
              exact ih39 (f_X5_sourceOf N x4_39) (i5_39 + 1) (by omega) (by omega) hRES
      refine x_forget (L' := [some (.ref h), none, none, some (.int (f_X5_ancestors N a2)), some (.int a1), some (.int 0)]) [0, 3, 4, 5] rfl rfl ?_
      exact loop39 25 a1 0 (by omega) (by omega) hRES
    · rw [if_neg c2] at hRES
      refine x_iconst (v := (-1)) (pc' := 23) C dX6_common_22 rfl (by decide) ?_
      exact x_iret C (Nat.zero_le _) (Nat.zero_le _) dX6_common_23 (by rw [hRES])

def k_X6_costFrom_64 (z1 : CS) (x2_64 : Int32) : Int32 × CS := (x2_64, z1)
def l_X6_costFrom_16 (N : CS) (z1 : CS) : Nat → Int32 → Nat → Int32 × CS
  | 0, _, _ => (0, dfCS)
  | n16 + 1, x2_16, i3_16 => (if i3_16 < 24 then (if (f_X4_isIn (z1.1 0) (nI i3_16)) = true then (l_X6_costFrom_16 N z1 n16 (x2_16 + ((f_X5_askedFor N (nI i3_16)) * (1 + (f_X2_cellsTo z1 (nI i3_16))))) (i3_16 + 1)) else (l_X6_costFrom_16 N z1 n16 x2_16 (i3_16 + 1))) else (k_X6_costFrom_64 z1 x2_16))
def f_X6_costFrom (M : CS) (N : CS) (E : CS) (a1 : Int32) : Int32 × CS := (bind1 (f_X2_spread E N a1) (fun z1 => (l_X6_costFrom_16 N z1 25 0 0)))
set_option maxRecDepth 100000 in
set_option maxHeartbeats 8000000 in
theorem c_X6_costFrom (l : Launch) (g : GT) (h : Nat) (ad : Nat → Nat) (M : CS) (adN : Nat → Nat) (N : CS) (adE : Nat → Nat) (E : CS) (a1 : Int32) : CW l yX6_costFrom (.code yX6_costFrom cX6_costFrom 4 (some .int)) 4 g [.ref h, .int a1] (cat [wMa h ad M, wSt g (ad 0) adN N, wRe g (ad 5) adE E]) (some (.int (f_X6_costFrom M N E a1).1)) (cat [wMa h ad M, wSt g (ad 0) adN N, wRe g (ad 5) adE (f_X6_costFrom M N E a1).2]) := by
  obtain ⟨RES, hRES⟩ : ∃ z, z = (f_X6_costFrom M N E a1) := ⟨_, rfl⟩
  rw [← hRES]
  unfold f_X6_costFrom at hRES
  refine CWx.of (nL := 4) (ret := (some .int)) (own := RX6) (cc := cX6_costFrom) rfl (by decide) rfl (List.forall_mem_cons.mpr ⟨rfl, (List.forall_mem_cons.mpr ⟨rfl, (fun _ h => absurd h List.not_mem_nil)⟩)⟩) (Nat.le_of_ble_eq_true rfl) ?_
  intro k C B hin hkl hkg
  subst hkl; subst hkg
  refine x_loc2 (L' := [some (.ref h), some (.int a1), none, none]) rfl ?_
  refine x_aload_n (pc' := 1) C dX6_costFrom_0 rfl rfl rfl ?_
  refine x_get (pc' := 4) (v := .ref (ad 5)) C 0 5 inBX6 rfl rfl (by decide) fl_X6_32 rfl rfl dX6_costFrom_1 rfl ?_
  refine x_aload_n (pc' := 5) C dX6_costFrom_4 rfl rfl rfl ?_
  refine x_get (pc' := 8) (v := .ref (ad 0)) C 0 0 inBX6 rfl rfl (by decide) fl_X6_10 rfl rfl dX6_costFrom_5 rfl ?_
  refine x_iload_n (pc' := 9) C dX6_costFrom_8 rfl rfl rfl ?_
  obtain ⟨z1, ez1⟩ : ∃ z, z = (f_X2_spread E N a1) := ⟨_, rfl⟩
  replace hRES := bd hRES z1 ez1
  have hc := c_X2_spread (kl k) (kg k) (ad 5) adE E (ad 0) adN N a1
  rw [← ez1] at hc
  refine x_catWV (st := []) (st2 := []) (pc' := 12) (wcs := [wRe (kg k) (ad 5) adE E, wSt (kg k) (ad 0) adN N]) (wrs := [wMa h ad M]) (wcs' := [wRe (kg k) (ad 5) adE z1, wSt (kg k) (ad 0) adN N]) C B [wMa h ad M, wSt (kg k) (ad 0) adN N, wRe (kg k) (ad 5) adE z1] hc (by simp only [cat, List.append_nil]) (by simp only [cat, List.append_nil]) cw_X6_174 ok_X2_spread rfl (by decide) rfl rfl [0, 2, 1] [0, 2, 1] rfl rfl rfl rfl rfl (Nat.le_of_ble_eq_true rfl) (Nat.zero_le _) (Nat.zero_le _) rfl dX6_costFrom_9 rfl rfl ?_
  refine x_iconst (v := 0) (pc' := 13) C dX6_costFrom_12 rfl (by decide) ?_
  refine x_istore_n (pc' := 14) (L' := [some (.ref h), some (.int a1), some (.int 0), none]) C dX6_costFrom_13 rfl rfl (Nat.le_of_ble_eq_true rfl) rfl ?_
  refine x_iconst (v := 0) (pc' := 15) C dX6_costFrom_14 rfl (by decide) ?_
  refine x_istore_n (pc' := 16) (L' := [some (.ref h), some (.int a1), some (.int 0), some (.int 0)]) C dX6_costFrom_15 rfl rfl (Nat.le_of_ble_eq_true rfl) rfl ?_
  have cont64 : ∀ (x2_64 : Int32), RES = k_X6_costFrom_64 z1 x2_64 → X k 0 0 (cat [wMa h ad M, wSt (kg k) (ad 0) adN N, wRe (kg k) (ad 5) adE z1]) 64 [none, none, some (.int x2_64), none] [] := by
    intro x2_64 hRES
    unfold k_X6_costFrom_64 at hRES
    refine x_iload_n (pc' := 65) C dX6_costFrom_64 rfl rfl rfl ?_
    exact x_iret C (Nat.zero_le _) (Nat.zero_le _) dX6_costFrom_65 ⟨by rw [hRES], by rw [hRES]⟩
  have loop16 : ∀ (n16 : Nat) (x2_16 : Int32) (i3_16 : Nat), i3_16 ≤ 24 → 24 < i3_16 + n16 → RES = l_X6_costFrom_16 N z1 n16 x2_16 i3_16 → X k 0 0 (cat [wMa h ad M, wSt (kg k) (ad 0) adN N, wRe (kg k) (ad 5) adE z1]) 16 [some (.ref h), none, some (.int x2_16), some (.int (nI i3_16))] [] := by
    intro n16
    induction n16 with
    | zero =>
      intro x2_16 i3_16 hb16 hf16 hRES
      omega
    | succ n16 ih16 =>
      intro x2_16 i3_16 hb16 hf16 hRES
      rw [l_X6_costFrom_16] at hRES
      refine x_iload_n (pc' := 17) C dX6_costFrom_16 rfl rfl rfl ?_
      refine x_bipush (v := 24) (pc' := 19) C dX6_costFrom_17 rfl (by decide) ?_
      refine x_icmpN_ge (tgt := 64) (pc' := 22) C i3_16 24 dX6_costFrom_19 (by decide) rfl (by omega) (by omega) (fun c2 => ?_) (fun c2 => ?_)
      · rw [if_neg c2] at hRES
        refine x_forget (L' := [none, none, some (.int x2_16), none]) [1] rfl rfl ?_
        exact cont64 x2_16 hRES
      · rw [if_pos c2] at hRES
        refine x_aload_n (pc' := 23) C dX6_costFrom_22 rfl rfl rfl ?_
        refine x_get (pc' := 26) (v := .ref (ad 5)) C 0 5 inBX6 rfl rfl (by decide) fl_X6_32 rfl rfl dX6_costFrom_23 rfl ?_
        refine x_get (pc' := 29) (v := .int (z1.1 0)) C 6 0 inBX2 rfl rfl (by decide) fl_X6_208 rfl rfl dX6_costFrom_26 rfl ?_
        refine x_iload_n (pc' := 30) C dX6_costFrom_29 rfl rfl rfl ?_
        refine x_RS (st := []) (st2 := [.int (bI (f_X4_isIn (z1.1 0) (nI i3_16)))]) (pc' := 33) C (c_X4_isIn (kl k) (kg k) (z1.1 0) (nI i3_16)) cw_X6_199 ok_X4_isIn (by decide) [] rfl rfl rfl (Nat.le_of_ble_eq_true rfl) (Nat.zero_le _) (Nat.zero_le _) rfl dX6_costFrom_30 rfl rfl ?_
        refine x_ifB_eq (tgt := 58) (pc' := 36) C dX6_costFrom_33 (by decide) rfl (fun c3 => ?_) (fun c3 => ?_)
        · rw [if_neg c3] at hRES
          refine x_iinc (pc' := 61) (v := (nI (i3_16 + 1))) (L' := [some (.ref h), none, some (.int x2_16), some (.int (nI (i3_16 + 1)))]) C dX6_costFrom_58 rfl rfl (nI_add i3_16 1) (Nat.le_of_ble_eq_true rfl) rfl ?_
          refine x_goto (tgt := 16) C dX6_costFrom_61 (by decide) ?_
          exact ih16 x2_16 (i3_16 + 1) (by omega) (by omega) hRES
        · rw [if_pos c3] at hRES
          refine x_iload_n (pc' := 37) C dX6_costFrom_36 rfl rfl rfl ?_
          refine x_aload_n (pc' := 38) C dX6_costFrom_37 rfl rfl rfl ?_
          refine x_get (pc' := 41) (v := .ref (ad 0)) C 0 0 inBX6 rfl rfl (by decide) fl_X6_10 rfl rfl dX6_costFrom_38 rfl ?_
          refine x_iload_n (pc' := 42) C dX6_costFrom_41 rfl rfl rfl ?_
          refine x_catRV (st := [.int x2_16]) (st2 := [.int (f_X5_askedFor N (nI i3_16)), .int x2_16]) (pc' := 45) (wcs := [wSt (kg k) (ad 0) adN N]) C (c_X5_askedFor (kl k) (kg k) (ad 0) adN N (nI i3_16)) (by simp only [cat, List.append_nil]) cw_X6_168 ok_X5_askedFor rfl (by decide) rfl rfl [1] rfl rfl rfl (Nat.le_of_ble_eq_true rfl) (Nat.zero_le _) (Nat.zero_le _) rfl dX6_costFrom_42 rfl rfl ?_
          refine x_iconst (v := 1) (pc' := 46) C dX6_costFrom_45 rfl (by decide) ?_
          refine x_aload_n (pc' := 47) C dX6_costFrom_46 rfl rfl rfl ?_
          refine x_get (pc' := 50) (v := .ref (ad 5)) C 0 5 inBX6 rfl rfl (by decide) fl_X6_32 rfl rfl dX6_costFrom_47 rfl ?_
          refine x_iload_n (pc' := 51) C dX6_costFrom_50 rfl rfl rfl ?_
          refine x_catRV (st := [.int 1, .int (f_X5_askedFor N (nI i3_16)), .int x2_16]) (st2 := [.int (f_X2_cellsTo z1 (nI i3_16)), .int 1, .int (f_X5_askedFor N (nI i3_16)), .int x2_16]) (pc' := 54) (wcs := [wRe (kg k) (ad 5) adE z1]) C (c_X2_cellsTo (kl k) (kg k) (ad 5) adE z1 (nI i3_16)) (by simp only [cat, List.append_nil]) cw_X6_257 ok_X2_cellsTo rfl (by decide) rfl rfl [2] rfl rfl rfl (Nat.le_of_ble_eq_true rfl) (Nat.zero_le _) (Nat.zero_le _) rfl dX6_costFrom_51 rfl rfl ?_
          refine x_iadd (pc' := 55) (v := (1 + (f_X2_cellsTo z1 (nI i3_16)))) C dX6_costFrom_54 rfl rfl ?_
          refine x_imul (pc' := 56) (v := ((f_X5_askedFor N (nI i3_16)) * (1 + (f_X2_cellsTo z1 (nI i3_16))))) C dX6_costFrom_55 rfl rfl ?_
          refine x_iadd (pc' := 57) (v := (x2_16 + ((f_X5_askedFor N (nI i3_16)) * (1 + (f_X2_cellsTo z1 (nI i3_16)))))) C dX6_costFrom_56 rfl rfl ?_
          refine x_istore_n (pc' := 58) (L' := [some (.ref h), none, some (.int (x2_16 + ((f_X5_askedFor N (nI i3_16)) * (1 + (f_X2_cellsTo z1 (nI i3_16)))))), some (.int (nI i3_16))]) C dX6_costFrom_57 rfl rfl (Nat.le_of_ble_eq_true rfl) rfl ?_
          refine x_iinc (pc' := 61) (v := (nI (i3_16 + 1))) (L' := [some (.ref h), none, some (.int (x2_16 + ((f_X5_askedFor N (nI i3_16)) * (1 + (f_X2_cellsTo z1 (nI i3_16)))))), some (.int (nI (i3_16 + 1)))]) C dX6_costFrom_58 rfl rfl (nI_add i3_16 1) (Nat.le_of_ble_eq_true rfl) rfl ?_
          refine x_goto (tgt := 16) C dX6_costFrom_61 (by decide) ?_
          exact ih16 (x2_16 + ((f_X5_askedFor N (nI i3_16)) * (1 + (f_X2_cellsTo z1 (nI i3_16))))) (i3_16 + 1) (by omega) (by omega) hRES
  refine x_forget (L' := [some (.ref h), none, some (.int 0), some (.int 0)]) [0, 2, 3] rfl rfl ?_
  exact loop16 25 0 0 (by omega) (by omega) hRES

def f_X6_ifRoot (M : CS) (N : CS) (E : CS) (a1 : Int32) : Int32 × CS := (if (f_X5_has N a1) = true then (bind1 (f_X6_costFrom M N E a1) (fun z2 => (z2.1, z2.2))) else ((-1), E))
set_option maxRecDepth 100000 in
set_option maxHeartbeats 8000000 in
theorem c_X6_ifRoot (l : Launch) (g : GT) (h : Nat) (ad : Nat → Nat) (M : CS) (adN : Nat → Nat) (N : CS) (adE : Nat → Nat) (E : CS) (a1 : Int32) : CW l yX6_ifRoot (.code yX6_ifRoot cX6_ifRoot 2 (some .int)) 5 g [.ref h, .int a1] (cat [wMa h ad M, wSt g (ad 0) adN N, wRe g (ad 5) adE E]) (some (.int (f_X6_ifRoot M N E a1).1)) (cat [wMa h ad M, wSt g (ad 0) adN N, wRe g (ad 5) adE (f_X6_ifRoot M N E a1).2]) := by
  obtain ⟨RES, hRES⟩ : ∃ z, z = (f_X6_ifRoot M N E a1) := ⟨_, rfl⟩
  rw [← hRES]
  unfold f_X6_ifRoot at hRES
  refine CWx.of (nL := 2) (ret := (some .int)) (own := RX6) (cc := cX6_ifRoot) rfl (by decide) rfl (List.forall_mem_cons.mpr ⟨rfl, (List.forall_mem_cons.mpr ⟨rfl, (fun _ h => absurd h List.not_mem_nil)⟩)⟩) (Nat.le_of_ble_eq_true rfl) ?_
  intro k C B hin hkl hkg
  subst hkl; subst hkg
  refine x_loc2 (L' := [some (.ref h), some (.int a1)]) rfl ?_
  refine x_aload_n (pc' := 1) C dX6_ifRoot_0 rfl rfl rfl ?_
  refine x_get (pc' := 4) (v := .ref (ad 0)) C 0 0 inBX6 rfl rfl (by decide) fl_X6_10 rfl rfl dX6_ifRoot_1 rfl ?_
  refine x_iload_n (pc' := 5) C dX6_ifRoot_4 rfl rfl rfl ?_
  refine x_catRV (st := []) (st2 := [.int (bI (f_X5_has N a1))]) (pc' := 8) (wcs := [wSt (kg k) (ad 0) adN N]) C (c_X5_has (kl k) (kg k) (ad 0) adN N a1) (by simp only [cat, List.append_nil]) cw_X6_57 ok_X5_has rfl (by decide) rfl rfl [1] rfl rfl rfl (Nat.le_of_ble_eq_true rfl) (Nat.zero_le _) (Nat.zero_le _) rfl dX6_ifRoot_5 rfl rfl ?_
  refine x_ifB_eq (tgt := 19) (pc' := 11) C dX6_ifRoot_8 (by decide) rfl (fun c1 => ?_) (fun c1 => ?_)
  · rw [if_neg c1] at hRES
    refine x_iconst (v := (-1)) (pc' := 20) C dX6_ifRoot_19 rfl (by decide) ?_
    exact x_iret C (Nat.zero_le _) (Nat.zero_le _) dX6_ifRoot_20 ⟨by rw [hRES], by rw [hRES]⟩
  · rw [if_pos c1] at hRES
    refine x_aload_n (pc' := 12) C dX6_ifRoot_11 rfl rfl rfl ?_
    refine x_iload_n (pc' := 13) C dX6_ifRoot_12 rfl rfl rfl ?_
    obtain ⟨z2, ez2⟩ : ∃ z, z = (f_X6_costFrom M N E a1) := ⟨_, rfl⟩
    replace hRES := bd hRES z2 ez2
    have hc := c_X6_costFrom (kl k) (kg k) h ad M adN N adE E a1
    rw [← ez2] at hc
    refine x_catWV (st := []) (st2 := [.int z2.1]) (pc' := 16) (wcs := [wMa h ad M, wSt (kg k) (ad 0) adN N, wRe (kg k) (ad 5) adE E]) (wrs := []) (wcs' := [wMa h ad M, wSt (kg k) (ad 0) adN N, wRe (kg k) (ad 5) adE z2.2]) C B [wMa h ad M, wSt (kg k) (ad 0) adN N, wRe (kg k) (ad 5) adE z2.2] hc rfl rfl cw_X6_205 ok_X6_costFrom rfl (by decide) rfl rfl [0, 1, 2] [0, 1, 2] rfl rfl rfl rfl rfl (Nat.le_of_ble_eq_true rfl) (Nat.zero_le _) (Nat.zero_le _) rfl dX6_ifRoot_13 rfl rfl ?_
    refine x_goto (tgt := 20) C dX6_ifRoot_16 (by decide) ?_
    exact x_iret C (Nat.zero_le _) (Nat.zero_le _) dX6_ifRoot_20 ⟨by rw [hRES], by rw [hRES]⟩

def k_X6_bestRoot_102 (E_102 : CS) (x3_102 : Int32) : Int32 × CS := (x3_102, E_102)
def l_X6_bestRoot_45 (M : CS) (N : CS) (z2 : CS) : Nat → CS → Int32 → Int32 → Nat → Int32 × CS
  | 0, _, _, _, _ => (0, dfCS)
  | n45 + 1, E_45, x3_45, x4_45, i5_45 => (if i5_45 < 24 then (if (f_X4_isIn (z2.1 0) (nI i5_45)) = true then (bind1 (f_X6_costFrom M N E_45 (nI i5_45)) (fun z6 => (if z6.1 < x4_45 then (l_X6_bestRoot_45 M N z2 n45 z6.2 (nI i5_45) z6.1 (i5_45 + 1)) else (if z6.1 = x4_45 then (if (nI i5_45) < x3_45 then (l_X6_bestRoot_45 M N z2 n45 z6.2 (nI i5_45) z6.1 (i5_45 + 1)) else (l_X6_bestRoot_45 M N z2 n45 z6.2 x3_45 x4_45 (i5_45 + 1))) else (l_X6_bestRoot_45 M N z2 n45 z6.2 x3_45 x4_45 (i5_45 + 1)))))) else (l_X6_bestRoot_45 M N z2 n45 E_45 x3_45 x4_45 (i5_45 + 1))) else (k_X6_bestRoot_102 E_45 x3_45))
def f_X6_bestRoot (M : CS) (N : CS) (E : CS) (a1 : Int32) : Int32 × CS := (if (f_X5_has N a1) = true then (bind1 (f_X2_spread E N a1) (fun z2 => (bind1 (f_X6_costFrom M N z2 a1) (fun z3 => (l_X6_bestRoot_45 M N z2 25 z3.2 a1 z3.1 0))))) else ((-1), E))
set_option maxRecDepth 100000 in
set_option maxHeartbeats 8000000 in
theorem c_X6_bestRoot (l : Launch) (g : GT) (h : Nat) (ad : Nat → Nat) (M : CS) (adN : Nat → Nat) (N : CS) (adE : Nat → Nat) (E : CS) (a1 : Int32) : CW l yX6_bestRoot (.code yX6_bestRoot cX6_bestRoot 7 (some .int)) 5 g [.ref h, .int a1] (cat [wMa h ad M, wSt g (ad 0) adN N, wRe g (ad 5) adE E]) (some (.int (f_X6_bestRoot M N E a1).1)) (cat [wMa h ad M, wSt g (ad 0) adN N, wRe g (ad 5) adE (f_X6_bestRoot M N E a1).2]) := by
  obtain ⟨RES, hRES⟩ : ∃ z, z = (f_X6_bestRoot M N E a1) := ⟨_, rfl⟩
  rw [← hRES]
  unfold f_X6_bestRoot at hRES
  refine CWx.of (nL := 7) (ret := (some .int)) (own := RX6) (cc := cX6_bestRoot) rfl (by decide) rfl (List.forall_mem_cons.mpr ⟨rfl, (List.forall_mem_cons.mpr ⟨rfl, (fun _ h => absurd h List.not_mem_nil)⟩)⟩) (Nat.le_of_ble_eq_true rfl) ?_
  intro k C B hin hkl hkg
  subst hkl; subst hkg
  refine x_loc2 (L' := [some (.ref h), some (.int a1), none, none, none, none, none]) rfl ?_
  refine x_aload_n (pc' := 1) C dX6_bestRoot_0 rfl rfl rfl ?_
  refine x_get (pc' := 4) (v := .ref (ad 0)) C 0 0 inBX6 rfl rfl (by decide) fl_X6_10 rfl rfl dX6_bestRoot_1 rfl ?_
  refine x_iload_n (pc' := 5) C dX6_bestRoot_4 rfl rfl rfl ?_
  refine x_catRV (st := []) (st2 := [.int (bI (f_X5_has N a1))]) (pc' := 8) (wcs := [wSt (kg k) (ad 0) adN N]) C (c_X5_has (kl k) (kg k) (ad 0) adN N a1) (by simp only [cat, List.append_nil]) cw_X6_57 ok_X5_has rfl (by decide) rfl rfl [1] rfl rfl rfl (Nat.le_of_ble_eq_true rfl) (Nat.zero_le _) (Nat.zero_le _) rfl dX6_bestRoot_5 rfl rfl ?_
  refine x_ifB_ne (tgt := 13) (pc' := 11) C dX6_bestRoot_8 (by decide) rfl (fun c1 => ?_) (fun c1 => ?_)
  · rw [if_pos c1] at hRES
    refine x_aload_n (pc' := 14) C dX6_bestRoot_13 rfl rfl rfl ?_
    refine x_get (pc' := 17) (v := .ref (ad 5)) C 0 5 inBX6 rfl rfl (by decide) fl_X6_32 rfl rfl dX6_bestRoot_14 rfl ?_
    refine x_aload_n (pc' := 18) C dX6_bestRoot_17 rfl rfl rfl ?_
    refine x_get (pc' := 21) (v := .ref (ad 0)) C 0 0 inBX6 rfl rfl (by decide) fl_X6_10 rfl rfl dX6_bestRoot_18 rfl ?_
    refine x_iload_n (pc' := 22) C dX6_bestRoot_21 rfl rfl rfl ?_
    obtain ⟨z2, ez2⟩ : ∃ z, z = (f_X2_spread E N a1) := ⟨_, rfl⟩
    replace hRES := bd hRES z2 ez2
    have hc := c_X2_spread (kl k) (kg k) (ad 5) adE E (ad 0) adN N a1
    rw [← ez2] at hc
    refine x_catWV (st := []) (st2 := []) (pc' := 25) (wcs := [wRe (kg k) (ad 5) adE E, wSt (kg k) (ad 0) adN N]) (wrs := [wMa h ad M]) (wcs' := [wRe (kg k) (ad 5) adE z2, wSt (kg k) (ad 0) adN N]) C B [wMa h ad M, wSt (kg k) (ad 0) adN N, wRe (kg k) (ad 5) adE z2] hc (by simp only [cat, List.append_nil]) (by simp only [cat, List.append_nil]) cw_X6_174 ok_X2_spread rfl (by decide) rfl rfl [0, 2, 1] [0, 2, 1] rfl rfl rfl rfl rfl (Nat.le_of_ble_eq_true rfl) (Nat.zero_le _) (Nat.zero_le _) rfl dX6_bestRoot_22 rfl rfl ?_
    refine x_aload_n (pc' := 26) C dX6_bestRoot_25 rfl rfl rfl ?_
    refine x_get (pc' := 29) (v := .ref (ad 5)) C 0 5 inBX6 rfl rfl (by decide) fl_X6_32 rfl rfl dX6_bestRoot_26 rfl ?_
    refine x_get (pc' := 32) (v := .int (z2.1 0)) C 6 0 inBX2 rfl rfl (by decide) fl_X6_208 rfl rfl dX6_bestRoot_29 rfl ?_
    refine x_istore_n (pc' := 33) (L' := [some (.ref h), some (.int a1), some (.int (z2.1 0)), none, none, none, none]) C dX6_bestRoot_32 rfl rfl (Nat.le_of_ble_eq_true rfl) rfl ?_
    refine x_iload_n (pc' := 34) C dX6_bestRoot_33 rfl rfl rfl ?_
    refine x_istore_n (pc' := 35) (L' := [some (.ref h), some (.int a1), some (.int (z2.1 0)), some (.int a1), none, none, none]) C dX6_bestRoot_34 rfl rfl (Nat.le_of_ble_eq_true rfl) rfl ?_
    refine x_aload_n (pc' := 36) C dX6_bestRoot_35 rfl rfl rfl ?_
    refine x_iload_n (pc' := 37) C dX6_bestRoot_36 rfl rfl rfl ?_
    obtain ⟨z3, ez3⟩ : ∃ z, z = (f_X6_costFrom M N z2 a1) := ⟨_, rfl⟩
    replace hRES := bd hRES z3 ez3
    have hc := c_X6_costFrom (kl k) (kg k) h ad M adN N adE z2 a1
    rw [← ez3] at hc
    refine x_catWV (st := []) (st2 := [.int z3.1]) (pc' := 40) (wcs := [wMa h ad M, wSt (kg k) (ad 0) adN N, wRe (kg k) (ad 5) adE z2]) (wrs := []) (wcs' := [wMa h ad M, wSt (kg k) (ad 0) adN N, wRe (kg k) (ad 5) adE z3.2]) C B [wMa h ad M, wSt (kg k) (ad 0) adN N, wRe (kg k) (ad 5) adE z3.2] hc rfl rfl cw_X6_205 ok_X6_costFrom rfl (by decide) rfl rfl [0, 1, 2] [0, 1, 2] rfl rfl rfl rfl rfl (Nat.le_of_ble_eq_true rfl) (Nat.zero_le _) (Nat.zero_le _) rfl dX6_bestRoot_37 rfl rfl ?_
    refine x_istore (pc' := 42) (L' := [some (.ref h), some (.int a1), some (.int (z2.1 0)), some (.int a1), some (.int z3.1), none, none]) C dX6_bestRoot_40 rfl (Nat.le_of_ble_eq_true rfl) rfl ?_
    refine x_iconst (v := 0) (pc' := 43) C dX6_bestRoot_42 rfl (by decide) ?_
    refine x_istore (pc' := 45) (L' := [some (.ref h), some (.int a1), some (.int (z2.1 0)), some (.int a1), some (.int z3.1), some (.int 0), none]) C dX6_bestRoot_43 rfl (Nat.le_of_ble_eq_true rfl) rfl ?_
    have cont102 : ∀ (E_102 : CS) (x3_102 : Int32), RES = k_X6_bestRoot_102 E_102 x3_102 → X k 0 0 (cat [wMa h ad M, wSt (kg k) (ad 0) adN N, wRe (kg k) (ad 5) adE E_102]) 102 [none, none, none, some (.int x3_102), none, none, none] [] := by
      intro E_102 x3_102 hRES
      unfold k_X6_bestRoot_102 at hRES
      refine x_iload_n (pc' := 103) C dX6_bestRoot_102 rfl rfl rfl ?_
      exact x_iret C (Nat.zero_le _) (Nat.zero_le _) dX6_bestRoot_103 ⟨by rw [hRES], by rw [hRES]⟩
    have loop45 : ∀ (n45 : Nat) (E_45 : CS) (x3_45 : Int32) (x4_45 : Int32) (i5_45 : Nat), i5_45 ≤ 24 → 24 < i5_45 + n45 → RES = l_X6_bestRoot_45 M N z2 n45 E_45 x3_45 x4_45 i5_45 → X k 0 0 (cat [wMa h ad M, wSt (kg k) (ad 0) adN N, wRe (kg k) (ad 5) adE E_45]) 45 [some (.ref h), none, some (.int (z2.1 0)), some (.int x3_45), some (.int x4_45), some (.int (nI i5_45)), none] [] := by
      intro n45
      induction n45 with
      | zero =>
        intro E_45 x3_45 x4_45 i5_45 hb45 hf45 hRES
        omega
      | succ n45 ih45 =>
        intro E_45 x3_45 x4_45 i5_45 hb45 hf45 hRES
        rw [l_X6_bestRoot_45] at hRES
        refine x_iload (pc' := 47) C dX6_bestRoot_45 rfl rfl ?_
        refine x_bipush (v := 24) (pc' := 49) C dX6_bestRoot_47 rfl (by decide) ?_
        refine x_icmpN_ge (tgt := 102) (pc' := 52) C i5_45 24 dX6_bestRoot_49 (by decide) rfl (by omega) (by omega) (fun c4 => ?_) (fun c4 => ?_)
        · rw [if_neg c4] at hRES
          refine x_forget (L' := [none, none, none, some (.int x3_45), none, none, none]) [2] rfl rfl ?_
          exact cont102 E_45 x3_45 hRES
        · rw [if_pos c4] at hRES
          refine x_iload_n (pc' := 53) C dX6_bestRoot_52 rfl rfl rfl ?_
          refine x_iload (pc' := 55) C dX6_bestRoot_53 rfl rfl ?_
          refine x_RS (st := []) (st2 := [.int (bI (f_X4_isIn (z2.1 0) (nI i5_45)))]) (pc' := 58) C (c_X4_isIn (kl k) (kg k) (z2.1 0) (nI i5_45)) cw_X6_199 ok_X4_isIn (by decide) [] rfl rfl rfl (Nat.le_of_ble_eq_true rfl) (Nat.zero_le _) (Nat.zero_le _) rfl dX6_bestRoot_55 rfl rfl ?_
          refine x_ifB_eq (tgt := 96) (pc' := 61) C dX6_bestRoot_58 (by decide) rfl (fun c5 => ?_) (fun c5 => ?_)
          · rw [if_neg c5] at hRES
            refine x_iinc (pc' := 99) (v := (nI (i5_45 + 1))) (L' := [some (.ref h), none, some (.int (z2.1 0)), some (.int x3_45), some (.int x4_45), some (.int (nI (i5_45 + 1))), none]) C dX6_bestRoot_96 rfl rfl (nI_add i5_45 1) (Nat.le_of_ble_eq_true rfl) rfl ?_
            refine x_goto (tgt := 45) C dX6_bestRoot_99 (by decide) ?_
            exact ih45 E_45 x3_45 x4_45 (i5_45 + 1) (by omega) (by omega) hRES
          · rw [if_pos c5] at hRES
            refine x_aload_n (pc' := 62) C dX6_bestRoot_61 rfl rfl rfl ?_
            refine x_iload (pc' := 64) C dX6_bestRoot_62 rfl rfl ?_
            obtain ⟨z6, ez6⟩ : ∃ z, z = (f_X6_costFrom M N E_45 (nI i5_45)) := ⟨_, rfl⟩
            replace hRES := bd hRES z6 ez6
            have hc := c_X6_costFrom (kl k) (kg k) h ad M adN N adE E_45 (nI i5_45)
            rw [← ez6] at hc
            refine x_catWV (st := []) (st2 := [.int z6.1]) (pc' := 67) (wcs := [wMa h ad M, wSt (kg k) (ad 0) adN N, wRe (kg k) (ad 5) adE E_45]) (wrs := []) (wcs' := [wMa h ad M, wSt (kg k) (ad 0) adN N, wRe (kg k) (ad 5) adE z6.2]) C B [wMa h ad M, wSt (kg k) (ad 0) adN N, wRe (kg k) (ad 5) adE z6.2] hc rfl rfl cw_X6_205 ok_X6_costFrom rfl (by decide) rfl rfl [0, 1, 2] [0, 1, 2] rfl rfl rfl rfl rfl (Nat.le_of_ble_eq_true rfl) (Nat.zero_le _) (Nat.zero_le _) rfl dX6_bestRoot_64 rfl rfl ?_
            refine x_istore (pc' := 69) (L' := [some (.ref h), none, some (.int (z2.1 0)), some (.int x3_45), some (.int x4_45), some (.int (nI i5_45)), some (.int z6.1)]) C dX6_bestRoot_67 rfl (Nat.le_of_ble_eq_true rfl) rfl ?_
            refine x_iload (pc' := 71) C dX6_bestRoot_69 rfl rfl ?_
            refine x_iload (pc' := 73) C dX6_bestRoot_71 rfl rfl ?_
            refine x_icmp_lt (tgt := 89) (pc' := 76) C dX6_bestRoot_73 (by decide) rfl (fun c7 => ?_) (fun c7 => ?_)
            · rw [if_pos c7] at hRES
              refine x_iload (pc' := 91) C dX6_bestRoot_89 rfl rfl ?_
              refine x_istore_n (pc' := 92) (L' := [some (.ref h), none, some (.int (z2.1 0)), some (.int (nI i5_45)), some (.int x4_45), some (.int (nI i5_45)), some (.int z6.1)]) C dX6_bestRoot_91 rfl rfl (Nat.le_of_ble_eq_true rfl) rfl ?_
              refine x_iload (pc' := 94) C dX6_bestRoot_92 rfl rfl ?_
              refine x_istore (pc' := 96) (L' := [some (.ref h), none, some (.int (z2.1 0)), some (.int (nI i5_45)), some (.int z6.1), some (.int (nI i5_45)), some (.int z6.1)]) C dX6_bestRoot_94 rfl (Nat.le_of_ble_eq_true rfl) rfl ?_
              refine x_iinc (pc' := 99) (v := (nI (i5_45 + 1))) (L' := [some (.ref h), none, some (.int (z2.1 0)), some (.int (nI i5_45)), some (.int z6.1), some (.int (nI (i5_45 + 1))), some (.int z6.1)]) C dX6_bestRoot_96 rfl rfl (nI_add i5_45 1) (Nat.le_of_ble_eq_true rfl) rfl ?_
              refine x_goto (tgt := 45) C dX6_bestRoot_99 (by decide) ?_
              refine x_forget (L' := [some (.ref h), none, some (.int (z2.1 0)), some (.int (nI i5_45)), some (.int z6.1), some (.int (nI (i5_45 + 1))), none]) [0, 1, 2, 3, 4] rfl rfl ?_
              exact ih45 z6.2 (nI i5_45) z6.1 (i5_45 + 1) (by omega) (by omega) hRES
            · rw [if_neg c7] at hRES
              refine x_iload (pc' := 78) C dX6_bestRoot_76 rfl rfl ?_
              refine x_iload (pc' := 80) C dX6_bestRoot_78 rfl rfl ?_
              refine x_icmp_ne (tgt := 96) (pc' := 83) C dX6_bestRoot_80 (by decide) rfl (fun c8 => ?_) (fun c8 => ?_)
              · rw [if_neg c8] at hRES
                refine x_iinc (pc' := 99) (v := (nI (i5_45 + 1))) (L' := [some (.ref h), none, some (.int (z2.1 0)), some (.int x3_45), some (.int x4_45), some (.int (nI (i5_45 + 1))), some (.int z6.1)]) C dX6_bestRoot_96 rfl rfl (nI_add i5_45 1) (Nat.le_of_ble_eq_true rfl) rfl ?_
                refine x_goto (tgt := 45) C dX6_bestRoot_99 (by decide) ?_
                refine x_forget (L' := [some (.ref h), none, some (.int (z2.1 0)), some (.int x3_45), some (.int x4_45), some (.int (nI (i5_45 + 1))), none]) [0, 1, 2, 3, 4] rfl rfl ?_
                exact ih45 z6.2 x3_45 x4_45 (i5_45 + 1) (by omega) (by omega) hRES
              · rw [if_pos c8] at hRES
                refine x_iload (pc' := 85) C dX6_bestRoot_83 rfl rfl ?_
                refine x_iload_n (pc' := 86) C dX6_bestRoot_85 rfl rfl rfl ?_
                refine x_icmp_ge (tgt := 96) (pc' := 89) C dX6_bestRoot_86 (by decide) rfl (fun c9 => ?_) (fun c9 => ?_)
                · rw [if_neg c9] at hRES
                  refine x_iinc (pc' := 99) (v := (nI (i5_45 + 1))) (L' := [some (.ref h), none, some (.int (z2.1 0)), some (.int x3_45), some (.int x4_45), some (.int (nI (i5_45 + 1))), some (.int z6.1)]) C dX6_bestRoot_96 rfl rfl (nI_add i5_45 1) (Nat.le_of_ble_eq_true rfl) rfl ?_
                  refine x_goto (tgt := 45) C dX6_bestRoot_99 (by decide) ?_
                  refine x_forget (L' := [some (.ref h), none, some (.int (z2.1 0)), some (.int x3_45), some (.int x4_45), some (.int (nI (i5_45 + 1))), none]) [0, 1, 2, 3, 4] rfl rfl ?_
                  exact ih45 z6.2 x3_45 x4_45 (i5_45 + 1) (by omega) (by omega) hRES
                · rw [if_pos c9] at hRES
                  refine x_iload (pc' := 91) C dX6_bestRoot_89 rfl rfl ?_
                  refine x_istore_n (pc' := 92) (L' := [some (.ref h), none, some (.int (z2.1 0)), some (.int (nI i5_45)), some (.int x4_45), some (.int (nI i5_45)), some (.int z6.1)]) C dX6_bestRoot_91 rfl rfl (Nat.le_of_ble_eq_true rfl) rfl ?_
                  refine x_iload (pc' := 94) C dX6_bestRoot_92 rfl rfl ?_
                  refine x_istore (pc' := 96) (L' := [some (.ref h), none, some (.int (z2.1 0)), some (.int (nI i5_45)), some (.int z6.1), some (.int (nI i5_45)), some (.int z6.1)]) C dX6_bestRoot_94 rfl (Nat.le_of_ble_eq_true rfl) rfl ?_
                  refine x_iinc (pc' := 99) (v := (nI (i5_45 + 1))) (L' := [some (.ref h), none, some (.int (z2.1 0)), some (.int (nI i5_45)), some (.int z6.1), some (.int (nI (i5_45 + 1))), some (.int z6.1)]) C dX6_bestRoot_96 rfl rfl (nI_add i5_45 1) (Nat.le_of_ble_eq_true rfl) rfl ?_
                  refine x_goto (tgt := 45) C dX6_bestRoot_99 (by decide) ?_
                  refine x_forget (L' := [some (.ref h), none, some (.int (z2.1 0)), some (.int (nI i5_45)), some (.int z6.1), some (.int (nI (i5_45 + 1))), none]) [0, 1, 2, 3, 4] rfl rfl ?_
                  exact ih45 z6.2 (nI i5_45) z6.1 (i5_45 + 1) (by omega) (by omega) hRES
    refine x_forget (L' := [some (.ref h), none, some (.int (z2.1 0)), some (.int a1), some (.int z3.1), some (.int 0), none]) [0, 2, 3, 4, 5] rfl rfl ?_
    exact loop45 25 z3.2 a1 z3.1 0 (by omega) (by omega) hRES
  · rw [if_neg c1] at hRES
    refine x_iconst (v := (-1)) (pc' := 12) C dX6_bestRoot_11 rfl (by decide) ?_
    exact x_iret C (Nat.zero_le _) (Nat.zero_le _) dX6_bestRoot_12 ⟨by rw [hRES], by rw [hRES]⟩

def f_X6_ifCut (M : CS) (N : CS) (a1 : Int32) : Int32 := (if (f_X5_has N a1) = true then (if a1 = 0 then (-4) else (if (f_X5_isKept N a1) = true then ((f_X5_room N) + (8 - (f_X5_roomOf N a1))) else ((f_X5_room N) - (8 - (f_X5_roomOf N a1))))) else (-1))
set_option maxRecDepth 100000 in
set_option maxHeartbeats 8000000 in
theorem c_X6_ifCut (l : Launch) (g : GT) (h : Nat) (ad : Nat → Nat) (M : CS) (adN : Nat → Nat) (N : CS) (a1 : Int32) : CR l yX6_ifCut (.code yX6_ifCut cX6_ifCut 3 (some .int)) 4 g [.ref h, .int a1] (cat [wMa h ad M, wSt g (ad 0) adN N]) (some (.int (f_X6_ifCut M N a1))) := by
  obtain ⟨RES, hRES⟩ : ∃ z, z = (f_X6_ifCut M N a1) := ⟨_, rfl⟩
  rw [← hRES]
  unfold f_X6_ifCut at hRES
  refine CRx.of (nL := 3) (ret := (some .int)) (own := RX6) (cc := cX6_ifCut) rfl (by decide) rfl (List.forall_mem_cons.mpr ⟨rfl, (List.forall_mem_cons.mpr ⟨rfl, (fun _ h => absurd h List.not_mem_nil)⟩)⟩) (Nat.le_of_ble_eq_true rfl) ?_
  intro k C hkl hkg
  subst hkl; subst hkg
  refine x_loc2 (L' := [some (.ref h), some (.int a1), none]) rfl ?_
  refine x_aload_n (pc' := 1) C dX6_ifCut_0 rfl rfl rfl ?_
  refine x_get (pc' := 4) (v := .ref (ad 0)) C 0 0 inBX6 rfl rfl (by decide) fl_X6_10 rfl rfl dX6_ifCut_1 rfl ?_
  refine x_iload_n (pc' := 5) C dX6_ifCut_4 rfl rfl rfl ?_
  refine x_catRV (st := []) (st2 := [.int (bI (f_X5_has N a1))]) (pc' := 8) (wcs := [wSt (kg k) (ad 0) adN N]) C (c_X5_has (kl k) (kg k) (ad 0) adN N a1) (by simp only [cat, List.append_nil]) cw_X6_57 ok_X5_has rfl (by decide) rfl rfl [1] rfl rfl rfl (Nat.le_of_ble_eq_true rfl) (Nat.zero_le _) (Nat.zero_le _) rfl dX6_ifCut_5 rfl rfl ?_
  refine x_ifB_ne (tgt := 13) (pc' := 11) C dX6_ifCut_8 (by decide) rfl (fun c1 => ?_) (fun c1 => ?_)
  · rw [if_pos c1] at hRES
    refine x_iload_n (pc' := 14) C dX6_ifCut_13 rfl rfl rfl ?_
    refine x_if_ne (tgt := 20) (pc' := 17) C dX6_ifCut_14 (by decide) rfl (fun c2 => ?_) (fun c2 => ?_)
    · rw [if_neg c2] at hRES
      refine x_bipush (v := 8) (pc' := 22) C dX6_ifCut_20 rfl (by decide) ?_
      refine x_aload_n (pc' := 23) C dX6_ifCut_22 rfl rfl rfl ?_
      refine x_get (pc' := 26) (v := .ref (ad 0)) C 0 0 inBX6 rfl rfl (by decide) fl_X6_10 rfl rfl dX6_ifCut_23 rfl ?_
      refine x_iload_n (pc' := 27) C dX6_ifCut_26 rfl rfl rfl ?_
      refine x_catRV (st := [.int 8]) (st2 := [.int (f_X5_roomOf N a1), .int 8]) (pc' := 30) (wcs := [wSt (kg k) (ad 0) adN N]) C (c_X5_roomOf (kl k) (kg k) (ad 0) adN N a1) (by simp only [cat, List.append_nil]) cw_X6_211 ok_X5_roomOf rfl (by decide) rfl rfl [1] rfl rfl rfl (Nat.le_of_ble_eq_true rfl) (Nat.zero_le _) (Nat.zero_le _) rfl dX6_ifCut_27 rfl rfl ?_
      refine x_isub (pc' := 31) (v := (8 - (f_X5_roomOf N a1))) C dX6_ifCut_30 rfl rfl ?_
      refine x_istore_n (pc' := 32) (L' := [some (.ref h), some (.int a1), some (.int (8 - (f_X5_roomOf N a1)))]) C dX6_ifCut_31 rfl rfl (Nat.le_of_ble_eq_true rfl) rfl ?_
      refine x_aload_n (pc' := 33) C dX6_ifCut_32 rfl rfl rfl ?_
      refine x_get (pc' := 36) (v := .ref (ad 0)) C 0 0 inBX6 rfl rfl (by decide) fl_X6_10 rfl rfl dX6_ifCut_33 rfl ?_
      refine x_iload_n (pc' := 37) C dX6_ifCut_36 rfl rfl rfl ?_
      refine x_catRV (st := []) (st2 := [.int (bI (f_X5_isKept N a1))]) (pc' := 40) (wcs := [wSt (kg k) (ad 0) adN N]) C (c_X5_isKept (kl k) (kg k) (ad 0) adN N a1) (by simp only [cat, List.append_nil]) cw_X6_67 ok_X5_isKept rfl (by decide) rfl rfl [1] rfl rfl rfl (Nat.le_of_ble_eq_true rfl) (Nat.zero_le _) (Nat.zero_le _) rfl dX6_ifCut_37 rfl rfl ?_
      refine x_ifB_eq (tgt := 55) (pc' := 43) C dX6_ifCut_40 (by decide) rfl (fun c3 => ?_) (fun c3 => ?_)
      · rw [if_neg c3] at hRES
        refine x_aload_n (pc' := 56) C dX6_ifCut_55 rfl rfl rfl ?_
        refine x_get (pc' := 59) (v := .ref (ad 0)) C 0 0 inBX6 rfl rfl (by decide) fl_X6_10 rfl rfl dX6_ifCut_56 rfl ?_
        refine x_catRV (st := []) (st2 := [.int (f_X5_room N)]) (pc' := 62) (wcs := [wSt (kg k) (ad 0) adN N]) C (c_X5_room (kl k) (kg k) (ad 0) adN N) (by simp only [cat, List.append_nil]) cw_X6_214 ok_X5_room rfl (by decide) rfl rfl [1] rfl rfl rfl (Nat.le_of_ble_eq_true rfl) (Nat.zero_le _) (Nat.zero_le _) rfl dX6_ifCut_59 rfl rfl ?_
        refine x_iload_n (pc' := 63) C dX6_ifCut_62 rfl rfl rfl ?_
        refine x_isub (pc' := 64) (v := ((f_X5_room N) - (8 - (f_X5_roomOf N a1)))) C dX6_ifCut_63 rfl rfl ?_
        exact x_iret C (Nat.zero_le _) (Nat.zero_le _) dX6_ifCut_64 (by rw [hRES])
      · rw [if_pos c3] at hRES
        refine x_aload_n (pc' := 44) C dX6_ifCut_43 rfl rfl rfl ?_
        refine x_get (pc' := 47) (v := .ref (ad 0)) C 0 0 inBX6 rfl rfl (by decide) fl_X6_10 rfl rfl dX6_ifCut_44 rfl ?_
        refine x_catRV (st := []) (st2 := [.int (f_X5_room N)]) (pc' := 50) (wcs := [wSt (kg k) (ad 0) adN N]) C (c_X5_room (kl k) (kg k) (ad 0) adN N) (by simp only [cat, List.append_nil]) cw_X6_214 ok_X5_room rfl (by decide) rfl rfl [1] rfl rfl rfl (Nat.le_of_ble_eq_true rfl) (Nat.zero_le _) (Nat.zero_le _) rfl dX6_ifCut_47 rfl rfl ?_
        refine x_iload_n (pc' := 51) C dX6_ifCut_50 rfl rfl rfl ?_
        refine x_iadd (pc' := 52) (v := ((f_X5_room N) + (8 - (f_X5_roomOf N a1)))) C dX6_ifCut_51 rfl rfl ?_
        refine x_goto (tgt := 64) C dX6_ifCut_52 (by decide) ?_
        exact x_iret C (Nat.zero_le _) (Nat.zero_le _) dX6_ifCut_64 (by rw [hRES])
    · rw [if_pos c2] at hRES
      refine x_bipush (v := (-4)) (pc' := 19) C dX6_ifCut_17 rfl (by decide) ?_
      exact x_iret C (Nat.zero_le _) (Nat.zero_le _) dX6_ifCut_19 (by rw [hRES])
  · rw [if_neg c1] at hRES
    refine x_iconst (v := (-1)) (pc' := 12) C dX6_ifCut_11 rfl (by decide) ?_
    exact x_iret C (Nat.zero_le _) (Nat.zero_le _) dX6_ifCut_12 (by rw [hRES])

def k_X6_longestWay_51 (E_51 : CS) (x1_51 : Int32) : Int32 × CS := (x1_51, E_51)
def l_X6_longestWay_4 (N : CS) : Nat → CS → Int32 → Nat → Int32 × CS
  | 0, _, _, _ => (0, dfCS)
  | n4 + 1, E_4, x1_4, i2_4 => (if i2_4 < 24 then (if (f_X5_isRoot N (nI i2_4)) = true then (bind1 (f_X2_spread E_4 N (nI i2_4)) (fun z3 => (l_X6_longestWay_4 N n4 z3 (imax x1_4 (f_X2_farthest z3)) (i2_4 + 1)))) else (l_X6_longestWay_4 N n4 E_4 x1_4 (i2_4 + 1))) else (k_X6_longestWay_51 E_4 x1_4))
def f_X6_longestWay (M : CS) (N : CS) (E : CS) : Int32 × CS := (l_X6_longestWay_4 N 25 E 0 0)
set_option maxRecDepth 100000 in
set_option maxHeartbeats 8000000 in
theorem c_X6_longestWay (l : Launch) (g : GT) (h : Nat) (ad : Nat → Nat) (M : CS) (adN : Nat → Nat) (N : CS) (adE : Nat → Nat) (E : CS) : CW l yX6_longestWay (.code yX6_longestWay cX6_longestWay 3 (some .int)) 4 g [.ref h] (cat [wMa h ad M, wSt g (ad 0) adN N, wRe g (ad 5) adE E]) (some (.int (f_X6_longestWay M N E).1)) (cat [wMa h ad M, wSt g (ad 0) adN N, wRe g (ad 5) adE (f_X6_longestWay M N E).2]) := by
  obtain ⟨RES, hRES⟩ : ∃ z, z = (f_X6_longestWay M N E) := ⟨_, rfl⟩
  rw [← hRES]
  unfold f_X6_longestWay at hRES
  refine CWx.of (nL := 3) (ret := (some .int)) (own := RX6) (cc := cX6_longestWay) rfl (by decide) rfl (List.forall_mem_cons.mpr ⟨rfl, (fun _ h => absurd h List.not_mem_nil)⟩) (Nat.le_of_ble_eq_true rfl) ?_
  intro k C B hin hkl hkg
  subst hkl; subst hkg
  refine x_loc2 (L' := [some (.ref h), none, none]) rfl ?_
  refine x_iconst (v := 0) (pc' := 1) C dX6_longestWay_0 rfl (by decide) ?_
  refine x_istore_n (pc' := 2) (L' := [some (.ref h), some (.int 0), none]) C dX6_longestWay_1 rfl rfl (Nat.le_of_ble_eq_true rfl) rfl ?_
  refine x_iconst (v := 0) (pc' := 3) C dX6_longestWay_2 rfl (by decide) ?_
  refine x_istore_n (pc' := 4) (L' := [some (.ref h), some (.int 0), some (.int 0)]) C dX6_longestWay_3 rfl rfl (Nat.le_of_ble_eq_true rfl) rfl ?_
  have cont51 : ∀ (E_51 : CS) (x1_51 : Int32), RES = k_X6_longestWay_51 E_51 x1_51 → X k 0 0 (cat [wMa h ad M, wSt (kg k) (ad 0) adN N, wRe (kg k) (ad 5) adE E_51]) 51 [none, some (.int x1_51), none] [] := by
    intro E_51 x1_51 hRES
    unfold k_X6_longestWay_51 at hRES
    refine x_iload_n (pc' := 52) C dX6_longestWay_51 rfl rfl rfl ?_
    exact x_iret C (Nat.zero_le _) (Nat.zero_le _) dX6_longestWay_52 ⟨by rw [hRES], by rw [hRES]⟩
  have loop4 : ∀ (n4 : Nat) (E_4 : CS) (x1_4 : Int32) (i2_4 : Nat), i2_4 ≤ 24 → 24 < i2_4 + n4 → RES = l_X6_longestWay_4 N n4 E_4 x1_4 i2_4 → X k 0 0 (cat [wMa h ad M, wSt (kg k) (ad 0) adN N, wRe (kg k) (ad 5) adE E_4]) 4 [some (.ref h), some (.int x1_4), some (.int (nI i2_4))] [] := by
    intro n4
    induction n4 with
    | zero =>
      intro E_4 x1_4 i2_4 hb4 hf4 hRES
      omega
    | succ n4 ih4 =>
      intro E_4 x1_4 i2_4 hb4 hf4 hRES
      rw [l_X6_longestWay_4] at hRES
      refine x_iload_n (pc' := 5) C dX6_longestWay_4 rfl rfl rfl ?_
      refine x_bipush (v := 24) (pc' := 7) C dX6_longestWay_5 rfl (by decide) ?_
      refine x_icmpN_ge (tgt := 51) (pc' := 10) C i2_4 24 dX6_longestWay_7 (by decide) rfl (by omega) (by omega) (fun c1 => ?_) (fun c1 => ?_)
      · rw [if_neg c1] at hRES
        refine x_forget (L' := [none, some (.int x1_4), none]) [1] rfl rfl ?_
        exact cont51 E_4 x1_4 hRES
      · rw [if_pos c1] at hRES
        refine x_aload_n (pc' := 11) C dX6_longestWay_10 rfl rfl rfl ?_
        refine x_get (pc' := 14) (v := .ref (ad 0)) C 0 0 inBX6 rfl rfl (by decide) fl_X6_10 rfl rfl dX6_longestWay_11 rfl ?_
        refine x_iload_n (pc' := 15) C dX6_longestWay_14 rfl rfl rfl ?_
        refine x_catRV (st := []) (st2 := [.int (bI (f_X5_isRoot N (nI i2_4)))]) (pc' := 18) (wcs := [wSt (kg k) (ad 0) adN N]) C (c_X5_isRoot (kl k) (kg k) (ad 0) adN N (nI i2_4)) (by simp only [cat, List.append_nil]) cw_X6_64 ok_X5_isRoot rfl (by decide) rfl rfl [1] rfl rfl rfl (Nat.le_of_ble_eq_true rfl) (Nat.zero_le _) (Nat.zero_le _) rfl dX6_longestWay_15 rfl rfl ?_
        refine x_ifB_eq (tgt := 45) (pc' := 21) C dX6_longestWay_18 (by decide) rfl (fun c2 => ?_) (fun c2 => ?_)
        · rw [if_neg c2] at hRES
          refine x_iinc (pc' := 48) (v := (nI (i2_4 + 1))) (L' := [some (.ref h), some (.int x1_4), some (.int (nI (i2_4 + 1)))]) C dX6_longestWay_45 rfl rfl (nI_add i2_4 1) (Nat.le_of_ble_eq_true rfl) rfl ?_
          refine x_goto (tgt := 4) C dX6_longestWay_48 (by decide) ?_
          exact ih4 E_4 x1_4 (i2_4 + 1) (by omega) (by omega) hRES
        · rw [if_pos c2] at hRES
          refine x_aload_n (pc' := 22) C dX6_longestWay_21 rfl rfl rfl ?_
          refine x_get (pc' := 25) (v := .ref (ad 5)) C 0 5 inBX6 rfl rfl (by decide) fl_X6_32 rfl rfl dX6_longestWay_22 rfl ?_
          refine x_aload_n (pc' := 26) C dX6_longestWay_25 rfl rfl rfl ?_
          refine x_get (pc' := 29) (v := .ref (ad 0)) C 0 0 inBX6 rfl rfl (by decide) fl_X6_10 rfl rfl dX6_longestWay_26 rfl ?_
          refine x_iload_n (pc' := 30) C dX6_longestWay_29 rfl rfl rfl ?_
          obtain ⟨z3, ez3⟩ : ∃ z, z = (f_X2_spread E_4 N (nI i2_4)) := ⟨_, rfl⟩
          replace hRES := bd hRES z3 ez3
          have hc := c_X2_spread (kl k) (kg k) (ad 5) adE E_4 (ad 0) adN N (nI i2_4)
          rw [← ez3] at hc
          refine x_catWV (st := []) (st2 := []) (pc' := 33) (wcs := [wRe (kg k) (ad 5) adE E_4, wSt (kg k) (ad 0) adN N]) (wrs := [wMa h ad M]) (wcs' := [wRe (kg k) (ad 5) adE z3, wSt (kg k) (ad 0) adN N]) C B [wMa h ad M, wSt (kg k) (ad 0) adN N, wRe (kg k) (ad 5) adE z3] hc (by simp only [cat, List.append_nil]) (by simp only [cat, List.append_nil]) cw_X6_174 ok_X2_spread rfl (by decide) rfl rfl [0, 2, 1] [0, 2, 1] rfl rfl rfl rfl rfl (Nat.le_of_ble_eq_true rfl) (Nat.zero_le _) (Nat.zero_le _) rfl dX6_longestWay_30 rfl rfl ?_
          refine x_iload_n (pc' := 34) C dX6_longestWay_33 rfl rfl rfl ?_
          refine x_aload_n (pc' := 35) C dX6_longestWay_34 rfl rfl rfl ?_
          refine x_get (pc' := 38) (v := .ref (ad 5)) C 0 5 inBX6 rfl rfl (by decide) fl_X6_32 rfl rfl dX6_longestWay_35 rfl ?_
          refine x_catRV (st := [.int x1_4]) (st2 := [.int (f_X2_farthest z3), .int x1_4]) (pc' := 41) (wcs := [wRe (kg k) (ad 5) adE z3]) C (c_X2_farthest (kl k) (kg k) (ad 5) adE z3) (by simp only [cat, List.append_nil]) cw_X6_293 ok_X2_farthest rfl (by decide) rfl rfl [2] rfl rfl rfl (Nat.le_of_ble_eq_true rfl) (Nat.zero_le _) (Nat.zero_le _) rfl dX6_longestWay_38 rfl rfl ?_
          refine x_max (pc' := 44) (v := (imax x1_4 (f_X2_farthest z3))) C ml_X6_296 st_max in_Math co_max (by decide) (Nat.le_of_ble_eq_true rfl) (Nat.zero_le _) (Nat.zero_le _) rfl dX6_longestWay_41 rfl ?_
          refine x_istore_n (pc' := 45) (L' := [some (.ref h), some (.int (imax x1_4 (f_X2_farthest z3))), some (.int (nI i2_4))]) C dX6_longestWay_44 rfl rfl (Nat.le_of_ble_eq_true rfl) rfl ?_
          refine x_iinc (pc' := 48) (v := (nI (i2_4 + 1))) (L' := [some (.ref h), some (.int (imax x1_4 (f_X2_farthest z3))), some (.int (nI (i2_4 + 1)))]) C dX6_longestWay_45 rfl rfl (nI_add i2_4 1) (Nat.le_of_ble_eq_true rfl) rfl ?_
          refine x_goto (tgt := 4) C dX6_longestWay_48 (by decide) ?_
          exact ih4 z3 (imax x1_4 (f_X2_farthest z3)) (i2_4 + 1) (by omega) (by omega) hRES
  exact loop4 25 E 0 0 (by omega) (by omega) hRES

def f_X6_count (M : CS) (N : CS) (Q : HS) (E : CS) (O : CS) (a1 : Int32) : Int32 × CS := (if a1 = 0 then ((f_X5_howMany N), E) else (if a1 = 1 then ((f_X5_trees N), E) else (if a1 = 2 then ((f_X5_room N), E) else (if a1 = 3 then (N.1 9, E) else (if a1 = 4 then (N.1 10, E) else (if a1 = 5 then ((f_X5_neverAsked N), E) else (if a1 = 6 then ((f_X5_cuts N), E) else (if a1 = 7 then (bind1 (f_X6_longestWay M N E) (fun z9 => (z9.1, z9.2))) else (if a1 = 8 then (N.1 11, E) else (if a1 = 9 then (N.1 12, E) else (if a1 = 10 then (N.1 7, E) else (if a1 = 11 then (N.1 8, E) else (if a1 = 12 then ((f_X5_unlikeRows N), E) else (if a1 = 13 then (Q.1.1, E) else (if a1 = 14 then (O.1 1, E) else ((-2), E))))))))))))))))
set_option maxRecDepth 100000 in
set_option maxHeartbeats 8000000 in
theorem c_X6_count (l : Launch) (g : GT) (h : Nat) (ad : Nat → Nat) (M : CS) (adN : Nat → Nat) (N : CS) (adQ : Nat → Nat) (Q : HS) (adE : Nat → Nat) (E : CS) (adO : Nat → Nat) (O : CS) (a1 : Int32) : CW l yX6_count (.code yX6_count cX6_count 2 (some .int)) 5 g [.ref h, .int a1] (cat [wMa h ad M, wSt g (ad 0) adN N, wHi g (ad 4) adQ Q, wRe g (ad 5) adE E, wOr g (ad 6) adO O]) (some (.int (f_X6_count M N Q E O a1).1)) (cat [wMa h ad M, wSt g (ad 0) adN N, wHi g (ad 4) adQ Q, wRe g (ad 5) adE (f_X6_count M N Q E O a1).2, wOr g (ad 6) adO O]) := by
  obtain ⟨RES, hRES⟩ : ∃ z, z = (f_X6_count M N Q E O a1) := ⟨_, rfl⟩
  rw [← hRES]
  unfold f_X6_count at hRES
  refine CWx.of (nL := 2) (ret := (some .int)) (own := RX6) (cc := cX6_count) rfl (by decide) rfl (List.forall_mem_cons.mpr ⟨rfl, (List.forall_mem_cons.mpr ⟨rfl, (fun _ h => absurd h List.not_mem_nil)⟩)⟩) (Nat.le_of_ble_eq_true rfl) ?_
  intro k C B hin hkl hkg
  subst hkl; subst hkg
  refine x_loc2 (L' := [some (.ref h), some (.int a1)]) rfl ?_
  refine x_iload_n (pc' := 1) C dX6_count_0 rfl rfl rfl ?_
  by_cases c1 : a1 = 0
  · rw [if_pos c1] at hRES
    refine x_tabIn (off := 75) (tgt := 76) C (0) dX6_count_1 (by rw [c1]; decide) (by decide) (by decide) rfl (by decide) ?_
    refine x_aload_n (pc' := 77) C dX6_count_76 rfl rfl rfl ?_
    refine x_get (pc' := 80) (v := .ref (ad 0)) C 0 0 inBX6 rfl rfl (by decide) fl_X6_10 rfl rfl dX6_count_77 rfl ?_
    refine x_catRV (st := []) (st2 := [.int (f_X5_howMany N)]) (pc' := 83) (wcs := [wSt (kg k) (ad 0) adN N]) C (c_X5_howMany (kl k) (kg k) (ad 0) adN N) (by simp only [cat, List.append_nil]) cw_X6_80 ok_X5_howMany rfl (by decide) rfl rfl [1] rfl rfl rfl (Nat.le_of_ble_eq_true rfl) (Nat.zero_le _) (Nat.zero_le _) rfl dX6_count_80 rfl rfl ?_
    exact x_iret C (Nat.zero_le _) (Nat.zero_le _) dX6_count_83 ⟨by rw [hRES], by rw [hRES]⟩
  · rw [if_neg c1] at hRES
    by_cases c2 : a1 = 1
    · rw [if_pos c2] at hRES
      refine x_tabIn (off := 83) (tgt := 84) C (1) dX6_count_1 (by rw [c2]; decide) (by decide) (by decide) rfl (by decide) ?_
      refine x_aload_n (pc' := 85) C dX6_count_84 rfl rfl rfl ?_
      refine x_get (pc' := 88) (v := .ref (ad 0)) C 0 0 inBX6 rfl rfl (by decide) fl_X6_10 rfl rfl dX6_count_85 rfl ?_
      refine x_catRV (st := []) (st2 := [.int (f_X5_trees N)]) (pc' := 91) (wcs := [wSt (kg k) (ad 0) adN N]) C (c_X5_trees (kl k) (kg k) (ad 0) adN N) (by simp only [cat, List.append_nil]) cw_X6_97 ok_X5_trees rfl (by decide) rfl rfl [1] rfl rfl rfl (Nat.le_of_ble_eq_true rfl) (Nat.zero_le _) (Nat.zero_le _) rfl dX6_count_88 rfl rfl ?_
      exact x_iret C (Nat.zero_le _) (Nat.zero_le _) dX6_count_91 ⟨by rw [hRES], by rw [hRES]⟩
    · rw [if_neg c2] at hRES
      by_cases c3 : a1 = 2
      · rw [if_pos c3] at hRES
        refine x_tabIn (off := 91) (tgt := 92) C (2) dX6_count_1 (by rw [c3]; decide) (by decide) (by decide) rfl (by decide) ?_
        refine x_aload_n (pc' := 93) C dX6_count_92 rfl rfl rfl ?_
        refine x_get (pc' := 96) (v := .ref (ad 0)) C 0 0 inBX6 rfl rfl (by decide) fl_X6_10 rfl rfl dX6_count_93 rfl ?_
        refine x_catRV (st := []) (st2 := [.int (f_X5_room N)]) (pc' := 99) (wcs := [wSt (kg k) (ad 0) adN N]) C (c_X5_room (kl k) (kg k) (ad 0) adN N) (by simp only [cat, List.append_nil]) cw_X6_214 ok_X5_room rfl (by decide) rfl rfl [1] rfl rfl rfl (Nat.le_of_ble_eq_true rfl) (Nat.zero_le _) (Nat.zero_le _) rfl dX6_count_96 rfl rfl ?_
        exact x_iret C (Nat.zero_le _) (Nat.zero_le _) dX6_count_99 ⟨by rw [hRES], by rw [hRES]⟩
      · rw [if_neg c3] at hRES
        by_cases c4 : a1 = 3
        · rw [if_pos c4] at hRES
          refine x_tabIn (off := 99) (tgt := 100) C (3) dX6_count_1 (by rw [c4]; decide) (by decide) (by decide) rfl (by decide) ?_
          refine x_aload_n (pc' := 101) C dX6_count_100 rfl rfl rfl ?_
          refine x_get (pc' := 104) (v := .ref (ad 0)) C 0 0 inBX6 rfl rfl (by decide) fl_X6_10 rfl rfl dX6_count_101 rfl ?_
          refine x_get (pc' := 107) (v := .int (N.1 9)) C 1 9 inBX5 rfl rfl (by decide) fl_X6_217 rfl rfl dX6_count_104 rfl ?_
          exact x_iret C (Nat.zero_le _) (Nat.zero_le _) dX6_count_107 ⟨by rw [hRES], by rw [hRES]⟩
        · rw [if_neg c4] at hRES
          by_cases c5 : a1 = 4
          · rw [if_pos c5] at hRES
            refine x_tabIn (off := 107) (tgt := 108) C (4) dX6_count_1 (by rw [c5]; decide) (by decide) (by decide) rfl (by decide) ?_
            refine x_aload_n (pc' := 109) C dX6_count_108 rfl rfl rfl ?_
            refine x_get (pc' := 112) (v := .ref (ad 0)) C 0 0 inBX6 rfl rfl (by decide) fl_X6_10 rfl rfl dX6_count_109 rfl ?_
            refine x_get (pc' := 115) (v := .int (N.1 10)) C 1 10 inBX5 rfl rfl (by decide) fl_X6_220 rfl rfl dX6_count_112 rfl ?_
            exact x_iret C (Nat.zero_le _) (Nat.zero_le _) dX6_count_115 ⟨by rw [hRES], by rw [hRES]⟩
          · rw [if_neg c5] at hRES
            by_cases c6 : a1 = 5
            · rw [if_pos c6] at hRES
              refine x_tabIn (off := 115) (tgt := 116) C (5) dX6_count_1 (by rw [c6]; decide) (by decide) (by decide) rfl (by decide) ?_
              refine x_aload_n (pc' := 117) C dX6_count_116 rfl rfl rfl ?_
              refine x_get (pc' := 120) (v := .ref (ad 0)) C 0 0 inBX6 rfl rfl (by decide) fl_X6_10 rfl rfl dX6_count_117 rfl ?_
              refine x_catRV (st := []) (st2 := [.int (f_X5_neverAsked N)]) (pc' := 123) (wcs := [wSt (kg k) (ad 0) adN N]) C (c_X5_neverAsked (kl k) (kg k) (ad 0) adN N) (by simp only [cat, List.append_nil]) cw_X6_223 ok_X5_neverAsked rfl (by decide) rfl rfl [1] rfl rfl rfl (Nat.le_of_ble_eq_true rfl) (Nat.zero_le _) (Nat.zero_le _) rfl dX6_count_120 rfl rfl ?_
              exact x_iret C (Nat.zero_le _) (Nat.zero_le _) dX6_count_123 ⟨by rw [hRES], by rw [hRES]⟩
            · rw [if_neg c6] at hRES
              by_cases c7 : a1 = 6
              · rw [if_pos c7] at hRES
                refine x_tabIn (off := 123) (tgt := 124) C (6) dX6_count_1 (by rw [c7]; decide) (by decide) (by decide) rfl (by decide) ?_
                refine x_aload_n (pc' := 125) C dX6_count_124 rfl rfl rfl ?_
                refine x_get (pc' := 128) (v := .ref (ad 0)) C 0 0 inBX6 rfl rfl (by decide) fl_X6_10 rfl rfl dX6_count_125 rfl ?_
                refine x_catRV (st := []) (st2 := [.int (f_X5_cuts N)]) (pc' := 131) (wcs := [wSt (kg k) (ad 0) adN N]) C (c_X5_cuts (kl k) (kg k) (ad 0) adN N) (by simp only [cat, List.append_nil]) cw_X6_226 ok_X5_cuts rfl (by decide) rfl rfl [1] rfl rfl rfl (Nat.le_of_ble_eq_true rfl) (Nat.zero_le _) (Nat.zero_le _) rfl dX6_count_128 rfl rfl ?_
                exact x_iret C (Nat.zero_le _) (Nat.zero_le _) dX6_count_131 ⟨by rw [hRES], by rw [hRES]⟩
              · rw [if_neg c7] at hRES
                by_cases c8 : a1 = 7
                · rw [if_pos c8] at hRES
                  refine x_tabIn (off := 131) (tgt := 132) C (7) dX6_count_1 (by rw [c8]; decide) (by decide) (by decide) rfl (by decide) ?_
                  refine x_aload_n (pc' := 133) C dX6_count_132 rfl rfl rfl ?_
                  obtain ⟨z9, ez9⟩ : ∃ z, z = (f_X6_longestWay M N E) := ⟨_, rfl⟩
                  replace hRES := bd hRES z9 ez9
                  have hc := c_X6_longestWay (kl k) (kg k) h ad M adN N adE E
                  rw [← ez9] at hc
                  refine x_catWV (st := []) (st2 := [.int z9.1]) (pc' := 136) (wcs := [wMa h ad M, wSt (kg k) (ad 0) adN N, wRe (kg k) (ad 5) adE E]) (wrs := [wHi (kg k) (ad 4) adQ Q, wOr (kg k) (ad 6) adO O]) (wcs' := [wMa h ad M, wSt (kg k) (ad 0) adN N, wRe (kg k) (ad 5) adE z9.2]) C B [wMa h ad M, wSt (kg k) (ad 0) adN N, wHi (kg k) (ad 4) adQ Q, wRe (kg k) (ad 5) adE z9.2, wOr (kg k) (ad 6) adO O] hc rfl rfl cw_X6_229 ok_X6_longestWay rfl (by decide) rfl rfl [2, 4, 0, 1, 3] [2, 3, 0, 4, 1] rfl rfl rfl rfl rfl (Nat.le_of_ble_eq_true rfl) (Nat.zero_le _) (Nat.zero_le _) rfl dX6_count_133 rfl rfl ?_
                  exact x_iret C (Nat.zero_le _) (Nat.zero_le _) dX6_count_136 ⟨by rw [hRES], by rw [hRES]⟩
                · rw [if_neg c8] at hRES
                  by_cases c10 : a1 = 8
                  · rw [if_pos c10] at hRES
                    refine x_tabIn (off := 136) (tgt := 137) C (8) dX6_count_1 (by rw [c10]; decide) (by decide) (by decide) rfl (by decide) ?_
                    refine x_aload_n (pc' := 138) C dX6_count_137 rfl rfl rfl ?_
                    refine x_get (pc' := 141) (v := .ref (ad 0)) C 0 0 inBX6 rfl rfl (by decide) fl_X6_10 rfl rfl dX6_count_138 rfl ?_
                    refine x_get (pc' := 144) (v := .int (N.1 11)) C 1 11 inBX5 rfl rfl (by decide) fl_X6_232 rfl rfl dX6_count_141 rfl ?_
                    exact x_iret C (Nat.zero_le _) (Nat.zero_le _) dX6_count_144 ⟨by rw [hRES], by rw [hRES]⟩
                  · rw [if_neg c10] at hRES
                    by_cases c11 : a1 = 9
                    · rw [if_pos c11] at hRES
                      refine x_tabIn (off := 144) (tgt := 145) C (9) dX6_count_1 (by rw [c11]; decide) (by decide) (by decide) rfl (by decide) ?_
                      refine x_aload_n (pc' := 146) C dX6_count_145 rfl rfl rfl ?_
                      refine x_get (pc' := 149) (v := .ref (ad 0)) C 0 0 inBX6 rfl rfl (by decide) fl_X6_10 rfl rfl dX6_count_146 rfl ?_
                      refine x_get (pc' := 152) (v := .int (N.1 12)) C 1 12 inBX5 rfl rfl (by decide) fl_X6_235 rfl rfl dX6_count_149 rfl ?_
                      exact x_iret C (Nat.zero_le _) (Nat.zero_le _) dX6_count_152 ⟨by rw [hRES], by rw [hRES]⟩
                    · rw [if_neg c11] at hRES
                      by_cases c12 : a1 = 10
                      · rw [if_pos c12] at hRES
                        refine x_tabIn (off := 152) (tgt := 153) C (10) dX6_count_1 (by rw [c12]; decide) (by decide) (by decide) rfl (by decide) ?_
                        refine x_aload_n (pc' := 154) C dX6_count_153 rfl rfl rfl ?_
                        refine x_get (pc' := 157) (v := .ref (ad 0)) C 0 0 inBX6 rfl rfl (by decide) fl_X6_10 rfl rfl dX6_count_154 rfl ?_
                        refine x_get (pc' := 160) (v := .int (N.1 7)) C 1 7 inBX5 rfl rfl (by decide) fl_X6_103 rfl rfl dX6_count_157 rfl ?_
                        exact x_iret C (Nat.zero_le _) (Nat.zero_le _) dX6_count_160 ⟨by rw [hRES], by rw [hRES]⟩
                      · rw [if_neg c12] at hRES
                        by_cases c13 : a1 = 11
                        · rw [if_pos c13] at hRES
                          refine x_tabIn (off := 160) (tgt := 161) C (11) dX6_count_1 (by rw [c13]; decide) (by decide) (by decide) rfl (by decide) ?_
                          refine x_aload_n (pc' := 162) C dX6_count_161 rfl rfl rfl ?_
                          refine x_get (pc' := 165) (v := .ref (ad 0)) C 0 0 inBX6 rfl rfl (by decide) fl_X6_10 rfl rfl dX6_count_162 rfl ?_
                          refine x_get (pc' := 168) (v := .int (N.1 8)) C 1 8 inBX5 rfl rfl (by decide) fl_X6_107 rfl rfl dX6_count_165 rfl ?_
                          exact x_iret C (Nat.zero_le _) (Nat.zero_le _) dX6_count_168 ⟨by rw [hRES], by rw [hRES]⟩
                        · rw [if_neg c13] at hRES
                          by_cases c14 : a1 = 12
                          · rw [if_pos c14] at hRES
                            refine x_tabIn (off := 168) (tgt := 169) C (12) dX6_count_1 (by rw [c14]; decide) (by decide) (by decide) rfl (by decide) ?_
                            refine x_aload_n (pc' := 170) C dX6_count_169 rfl rfl rfl ?_
                            refine x_get (pc' := 173) (v := .ref (ad 0)) C 0 0 inBX6 rfl rfl (by decide) fl_X6_10 rfl rfl dX6_count_170 rfl ?_
                            refine x_catRV (st := []) (st2 := [.int (f_X5_unlikeRows N)]) (pc' := 176) (wcs := [wSt (kg k) (ad 0) adN N]) C (c_X5_unlikeRows (kl k) (kg k) (ad 0) adN N) (by simp only [cat, List.append_nil]) cw_X6_238 ok_X5_unlikeRows rfl (by decide) rfl rfl [1] rfl rfl rfl (Nat.le_of_ble_eq_true rfl) (Nat.zero_le _) (Nat.zero_le _) rfl dX6_count_173 rfl rfl ?_
                            exact x_iret C (Nat.zero_le _) (Nat.zero_le _) dX6_count_176 ⟨by rw [hRES], by rw [hRES]⟩
                          · rw [if_neg c14] at hRES
                            by_cases c15 : a1 = 13
                            · rw [if_pos c15] at hRES
                              refine x_tabIn (off := 176) (tgt := 177) C (13) dX6_count_1 (by rw [c15]; decide) (by decide) (by decide) rfl (by decide) ?_
                              refine x_aload_n (pc' := 178) C dX6_count_177 rfl rfl rfl ?_
                              refine x_get (pc' := 181) (v := .ref (ad 4)) C 0 4 inBX6 rfl rfl (by decide) fl_X6_25 rfl rfl dX6_count_178 rfl ?_
                              refine x_get (pc' := 184) (v := .int Q.1.1) C 6 1 inBX0 rfl rfl (by decide) fl_X6_151 rfl rfl dX6_count_181 rfl ?_
                              exact x_iret C (Nat.zero_le _) (Nat.zero_le _) dX6_count_184 ⟨by rw [hRES], by rw [hRES]⟩
                            · rw [if_neg c15] at hRES
                              by_cases c16 : a1 = 14
                              · rw [if_pos c16] at hRES
                                refine x_tabIn (off := 184) (tgt := 185) C (14) dX6_count_1 (by rw [c16]; decide) (by decide) (by decide) rfl (by decide) ?_
                                refine x_aload_n (pc' := 186) C dX6_count_185 rfl rfl rfl ?_
                                refine x_get (pc' := 189) (v := .ref (ad 6)) C 0 6 inBX6 rfl rfl (by decide) fl_X6_39 rfl rfl dX6_count_186 rfl ?_
                                refine x_get (pc' := 192) (v := .int (O.1 1)) C 32 1 inBX1 rfl rfl (by decide) fl_X6_114 rfl rfl dX6_count_189 rfl ?_
                                exact x_iret C (Nat.zero_le _) (Nat.zero_le _) dX6_count_192 ⟨by rw [hRES], by rw [hRES]⟩
                              · rw [if_neg c16] at hRES
                                refine x_tabOut (tgt := 193) C dX6_count_1 (by have hc1 := lv_neT (a := 0) c1 (by decide); have hc2 := lv_neT (a := 1) c2 (by decide); have hc3 := lv_neT (a := 2) c3 (by decide); have hc4 := lv_neT (a := 3) c4 (by decide); have hc5 := lv_neT (a := 4) c5 (by decide); have hc6 := lv_neT (a := 5) c6 (by decide); have hc7 := lv_neT (a := 6) c7 (by decide); have hc8 := lv_neT (a := 7) c8 (by decide); have hc10 := lv_neT (a := 8) c10 (by decide); have hc11 := lv_neT (a := 9) c11 (by decide); have hc12 := lv_neT (a := 10) c12 (by decide); have hc13 := lv_neT (a := 11) c13 (by decide); have hc14 := lv_neT (a := 12) c14 (by decide); have hc15 := lv_neT (a := 13) c15 (by decide); have hc16 := lv_neT (a := 14) c16 (by decide); omega) (by decide) ?_
                                refine x_bipush (v := (-2)) (pc' := 195) C dX6_count_193 rfl (by decide) ?_
                                exact x_iret C (Nat.zero_le _) (Nat.zero_le _) dX6_count_195 ⟨by rw [hRES], by rw [hRES]⟩
