def f_X7_of (a1 : Int32) (a2 : Int32) : Int32 := ((13 * a1) + a2)
set_option maxRecDepth 100000 in
set_option maxHeartbeats 8000000 in
theorem c_X7_of (l : Launch) (g : GT) (a1 : Int32) (a2 : Int32) : CR l yX7_of (.code yX7_of cX7_of 2 (some .int)) 0 g [.int a1, .int a2] ([]) (some (.int (f_X7_of a1 a2))) := by
  obtain ⟨RES, hRES⟩ : ∃ z, z = (f_X7_of a1 a2) := ⟨_, rfl⟩
  rw [← hRES]
  unfold f_X7_of at hRES
  refine CRx.of (nL := 2) (ret := (some .int)) (own := RX7) (cc := cX7_of) rfl (by decide) rfl (List.forall_mem_cons.mpr ⟨rfl, (List.forall_mem_cons.mpr ⟨rfl, (fun _ h => absurd h List.not_mem_nil)⟩)⟩) (Nat.le_of_ble_eq_true rfl) ?_
  intro k C hkl hkg
  subst hkl; subst hkg
  refine x_loc2 (L' := [some (.int a1), some (.int a2)]) rfl ?_
  refine x_bipush (v := 13) (pc' := 2) C dX7_of_0 rfl (by decide) ?_
  refine x_iload_n (pc' := 3) C dX7_of_2 rfl rfl rfl ?_
  refine x_imul (pc' := 4) (v := (13 * a1)) C dX7_of_3 rfl rfl ?_
  refine x_iload_n (pc' := 5) C dX7_of_4 rfl rfl rfl ?_
  refine x_iadd (pc' := 6) (v := ((13 * a1) + a2)) C dX7_of_5 rfl rfl ?_
  exact x_iret C (Nat.zero_le _) (Nat.zero_le _) dX7_of_6 (by rw [hRES])

def f_X7_in (a1 : Int32) (a2 : Int32) (a3 : Int32) : Bool := (if a1 < a2 then false else (if a3 < a1 then false else true))
set_option maxRecDepth 100000 in
set_option maxHeartbeats 8000000 in
theorem c_X7_in (l : Launch) (g : GT) (a1 : Int32) (a2 : Int32) (a3 : Int32) : CR l yX7_in (.code yX7_in cX7_in 3 (some .boolean)) 0 g [.int a1, .int a2, .int a3] ([]) (some (.int (bI (f_X7_in a1 a2 a3)))) := by
  obtain ⟨RES, hRES⟩ : ∃ z, z = (f_X7_in a1 a2 a3) := ⟨_, rfl⟩
  rw [← hRES]
  unfold f_X7_in at hRES
  refine CRx.of (nL := 3) (ret := (some .boolean)) (own := RX7) (cc := cX7_in) rfl (by decide) rfl (List.forall_mem_cons.mpr ⟨rfl, (List.forall_mem_cons.mpr ⟨rfl, (List.forall_mem_cons.mpr ⟨rfl, (fun _ h => absurd h List.not_mem_nil)⟩)⟩)⟩) (Nat.le_of_ble_eq_true rfl) ?_
  intro k C hkl hkg
  subst hkl; subst hkg
  refine x_loc2 (L' := [some (.int a1), some (.int a2), some (.int a3)]) rfl ?_
  refine x_iload_n (pc' := 1) C dX7_in_0 rfl rfl rfl ?_
  refine x_iload_n (pc' := 2) C dX7_in_1 rfl rfl rfl ?_
  refine x_icmp_lt (tgt := 14) (pc' := 5) C dX7_in_2 (by decide) rfl (fun c1 => ?_) (fun c1 => ?_)
  · rw [if_pos c1] at hRES
    refine x_iconst (v := 0) (pc' := 15) C dX7_in_14 rfl (by decide) ?_
    exact x_zret (b := false) C (Nat.zero_le _) (Nat.zero_le _) dX7_in_15 (by rw [hRES])
  · rw [if_neg c1] at hRES
    refine x_iload_n (pc' := 6) C dX7_in_5 rfl rfl rfl ?_
    refine x_iload_n (pc' := 7) C dX7_in_6 rfl rfl rfl ?_
    refine x_icmp_gt (tgt := 14) (pc' := 10) C dX7_in_7 (by decide) rfl (fun c2 => ?_) (fun c2 => ?_)
    · rw [if_pos c2] at hRES
      refine x_iconst (v := 0) (pc' := 15) C dX7_in_14 rfl (by decide) ?_
      exact x_zret (b := false) C (Nat.zero_le _) (Nat.zero_le _) dX7_in_15 (by rw [hRES])
    · rw [if_neg c2] at hRES
      refine x_iconst (v := 1) (pc' := 11) C dX7_in_10 rfl (by decide) ?_
      refine x_goto (tgt := 15) C dX7_in_11 (by decide) ?_
      exact x_zret (b := true) C (Nat.zero_le _) (Nat.zero_le _) dX7_in_15 (by rw [hRES])

def f_X7_isVersion (S : CS) (a1 : Int32) : Bool := (if (f_X7_in a1 0 23) = true then (if ((S.2 0) ((f_X7_of a1 0)).toNatClampNeg) = 1 then true else false) else false)
def o_X7_isVersion (S : CS) (a1 : Int32) : Prop := (((f_X7_in a1 0 23) = true → (vp_in (f_X7_of a1 0) 318 ∧ ((((S.2 0) ((f_X7_of a1 0)).toNatClampNeg) = 1 → True) ∧ (¬ ((S.2 0) ((f_X7_of a1 0)).toNatClampNeg) = 1 → True)))) ∧ (¬ (f_X7_in a1 0 23) = true → True))
set_option maxRecDepth 100000 in
set_option maxHeartbeats 8000000 in
theorem c_X7_isVersion (l : Launch) (g : GT) (h : Nat) (ad : Nat → Nat) (S : CS) (a1 : Int32) (hok : o_X7_isVersion S a1) : CR l yX7_isVersion (.code yX7_isVersion cX7_isVersion 2 (some .boolean)) 1 g [.ref h, .int a1] (wMo g h ad S) (some (.int (bI (f_X7_isVersion S a1)))) := by
  obtain ⟨RES, hRES⟩ : ∃ z, z = (f_X7_isVersion S a1) := ⟨_, rfl⟩
  rw [← hRES]
  unfold f_X7_isVersion at hRES
  unfold o_X7_isVersion at hok
  refine CRx.of (nL := 2) (ret := (some .boolean)) (own := RX7) (cc := cX7_isVersion) rfl (by decide) rfl (List.forall_mem_cons.mpr ⟨rfl, (List.forall_mem_cons.mpr ⟨rfl, (fun _ h => absurd h List.not_mem_nil)⟩)⟩) (Nat.le_of_ble_eq_true rfl) ?_
  intro k C hkl hkg
  subst hkl; subst hkg
  refine x_loc2 (L' := [some (.ref h), some (.int a1)]) rfl ?_
  refine x_iload_n (pc' := 1) C dX7_isVersion_0 rfl rfl rfl ?_
  refine x_iconst (v := 0) (pc' := 2) C dX7_isVersion_1 rfl (by decide) ?_
  refine x_bipush (v := 23) (pc' := 4) C dX7_isVersion_2 rfl (by decide) ?_
  refine x_RS (st := []) (st2 := [.int (bI (f_X7_in a1 0 23))]) (pc' := 7) C (c_X7_in (kl k) (kg k) a1 0 23) cw_X7_36 ok_X7_in (by decide) [] rfl rfl rfl (Nat.le_of_ble_eq_true rfl) (Nat.zero_le _) (Nat.zero_le _) rfl dX7_isVersion_4 rfl rfl ?_
  refine x_ifB_eq (tgt := 28) (pc' := 10) C dX7_isVersion_7 (by decide) rfl (fun c1 => ?_) (fun c1 => ?_)
  · rw [if_neg c1] at hRES
    replace hok := hok.2 c1
    refine x_iconst (v := 0) (pc' := 29) C dX7_isVersion_28 rfl (by decide) ?_
    exact x_zret (b := false) C (Nat.zero_le _) (Nat.zero_le _) dX7_isVersion_29 (by rw [hRES])
  · rw [if_pos c1] at hRES
    replace hok := hok.1 c1
    refine x_aload_n (pc' := 11) C dX7_isVersion_10 rfl rfl rfl ?_
    refine x_get (pc' := 14) (v := .ref (ad 0)) C 0 0 inBX7 rfl rfl (by decide) fl_X7_7 rfl rfl dX7_isVersion_11 rfl ?_
    refine x_iload_n (pc' := 15) C dX7_isVersion_14 rfl rfl rfl ?_
    refine x_iconst (v := 0) (pc' := 16) C dX7_isVersion_15 rfl (by decide) ?_
    refine x_RS (st := [.ref (ad 0)]) (st2 := [.int (f_X7_of a1 0), .ref (ad 0)]) (pc' := 19) C (c_X7_of (kl k) (kg k) a1 0) cw_X7_32 ok_X7_of (by decide) [] rfl rfl rfl (Nat.le_of_ble_eq_true rfl) (Nat.zero_le _) (Nat.zero_le _) rfl dX7_isVersion_16 rfl rfl ?_
    obtain ⟨hn2, hok⟩ := hok
    refine x_iald (pc' := 20) (f := S.2 0) (v := ((S.2 0) ((f_X7_of a1 0)).toNatClampNeg)) C 1 rfl hn2 rfl dX7_isVersion_19 rfl ?_
    refine x_iconst (v := 1) (pc' := 21) C dX7_isVersion_20 rfl (by decide) ?_
    refine x_icmp_ne (tgt := 28) (pc' := 24) C dX7_isVersion_21 (by decide) rfl (fun c3 => ?_) (fun c3 => ?_)
    · rw [if_neg c3] at hRES
      replace hok := hok.2 c3
      refine x_iconst (v := 0) (pc' := 29) C dX7_isVersion_28 rfl (by decide) ?_
      exact x_zret (b := false) C (Nat.zero_le _) (Nat.zero_le _) dX7_isVersion_29 (by rw [hRES])
    · rw [if_pos c3] at hRES
      replace hok := hok.1 c3
      refine x_iconst (v := 1) (pc' := 25) C dX7_isVersion_24 rfl (by decide) ?_
      refine x_goto (tgt := 29) C dX7_isVersion_25 (by decide) ?_
      exact x_zret (b := true) C (Nat.zero_le _) (Nat.zero_le _) dX7_isVersion_29 (by rw [hRES])

def k_X7_putAside_27 (S_27 : CS) : CS := S_27
def l_X7_putAside_2 : Nat → CS → Nat → CS
  | 0, _, _ => dfCS
  | n2 + 1, S_2, i1_2 => (if i1_2 < 318 then (bind1 (setF S_2 1 (upd (S_2.2 1) i1_2 ((S_2.2 0) i1_2))) (fun z2 => (l_X7_putAside_2 n2 z2 (i1_2 + 1)))) else (k_X7_putAside_27 S_2))
def f_X7_putAside (S : CS) : CS := (l_X7_putAside_2 319 S 0)
set_option maxRecDepth 100000 in
set_option maxHeartbeats 8000000 in
theorem c_X7_putAside (l : Launch) (g : GT) (h : Nat) (ad : Nat → Nat) (S : CS) : CW l yX7_putAside (.code yX7_putAside cX7_putAside 2 none) 0 g [.ref h] (wMo g h ad S) none (wMo g h ad (f_X7_putAside S)) := by
  obtain ⟨RES, hRES⟩ : ∃ z, z = (f_X7_putAside S) := ⟨_, rfl⟩
  rw [← hRES]
  unfold f_X7_putAside at hRES
  refine CWx.of (nL := 2) (ret := none) (own := RX7) (cc := cX7_putAside) rfl (by decide) rfl (List.forall_mem_cons.mpr ⟨rfl, (fun _ h => absurd h List.not_mem_nil)⟩) (Nat.le_of_ble_eq_true rfl) ?_
  intro k C B hin hkl hkg
  subst hkl; subst hkg
  refine x_loc2 (L' := [some (.ref h), none]) rfl ?_
  refine x_iconst (v := 0) (pc' := 1) C dX7_putAside_0 rfl (by decide) ?_
  refine x_istore_n (pc' := 2) (L' := [some (.ref h), some (.int 0)]) C dX7_putAside_1 rfl rfl (Nat.le_of_ble_eq_true rfl) rfl ?_
  have cont27 : ∀ (S_27 : CS), RES = k_X7_putAside_27 S_27 → X k 0 0 (wMo (kg k) h ad S_27) 27 [none, none] [] := by
    intro S_27 hRES
    unfold k_X7_putAside_27 at hRES
    exact x_vret C (Nat.zero_le _) (Nat.zero_le _) dX7_putAside_27 ⟨rfl, by rw [hRES]⟩
  have loop2 : ∀ (n2 : Nat) (S_2 : CS) (i1_2 : Nat), i1_2 ≤ 318 → 318 < i1_2 + n2 → RES = l_X7_putAside_2 n2 S_2 i1_2 → X k 0 0 (wMo (kg k) h ad S_2) 2 [some (.ref h), some (.int (nI i1_2))] [] := by
    intro n2
    induction n2 with
    | zero =>
      intro S_2 i1_2 hb2 hf2 hRES
      omega
    | succ n2 ih2 =>
      intro S_2 i1_2 hb2 hf2 hRES
      rw [l_X7_putAside_2] at hRES
      refine x_iload_n (pc' := 3) C dX7_putAside_2 rfl rfl rfl ?_
      refine x_sipush (v := 318) (pc' := 6) C dX7_putAside_3 rfl (by decide) ?_
      refine x_icmpN_ge (tgt := 27) (pc' := 9) C i1_2 318 dX7_putAside_6 (by decide) rfl (by omega) (by omega) (fun c1 => ?_) (fun c1 => ?_)
      · rw [if_neg c1] at hRES
        refine x_forget (L' := [none, none]) [] rfl rfl ?_
        exact cont27 S_2 hRES
      · rw [if_pos c1] at hRES
        refine x_aload_n (pc' := 10) C dX7_putAside_9 rfl rfl rfl ?_
        refine x_get (pc' := 13) (v := .ref (ad 1)) C 0 1 inBX7 rfl rfl (by decide) fl_X7_13 rfl rfl dX7_putAside_10 rfl ?_
        refine x_iload_n (pc' := 14) C dX7_putAside_13 rfl rfl rfl ?_
        refine x_aload_n (pc' := 15) C dX7_putAside_14 rfl rfl rfl ?_
        refine x_get (pc' := 18) (v := .ref (ad 0)) C 0 0 inBX7 rfl rfl (by decide) fl_X7_7 rfl rfl dX7_putAside_15 rfl ?_
        refine x_iload_n (pc' := 19) C dX7_putAside_18 rfl rfl rfl ?_
        refine x_ialdN (pc' := 20) (f := S_2.2 0) (j := i1_2) (v := ((S_2.2 0) i1_2)) C 1 rfl (by omega) (by decide) rfl dX7_putAside_19 rfl ?_
        obtain ⟨z2, ez2⟩ : ∃ z, z = (setF S_2 1 (upd (S_2.2 1) i1_2 ((S_2.2 0) i1_2))) := ⟨_, rfl⟩
        replace hRES := bd hRES z2 ez2
        refine x_iastN (pc' := 21) (f := S_2.2 1) (j := i1_2) (w' := wMo (kg k) h ad z2) C B 2 rfl (by omega) (by decide) dX7_putAside_20 rfl (by rw [ez2]; rfl) ?_
        refine x_iinc (pc' := 24) (v := (nI (i1_2 + 1))) (L' := [some (.ref h), some (.int (nI (i1_2 + 1)))]) C dX7_putAside_21 rfl rfl (nI_add i1_2 1) (Nat.le_of_ble_eq_true rfl) rfl ?_
        refine x_goto (tgt := 2) C dX7_putAside_24 (by decide) ?_
        exact ih2 z2 (i1_2 + 1) (by omega) (by omega) hRES
  exact loop2 319 S 0 (by omega) (by omega) hRES

def k_X7_putBack_27 (S_27 : CS) : CS := S_27
def l_X7_putBack_2 : Nat → CS → Nat → CS
  | 0, _, _ => dfCS
  | n2 + 1, S_2, i1_2 => (if i1_2 < 318 then (bind1 (setF S_2 0 (upd (S_2.2 0) i1_2 ((S_2.2 1) i1_2))) (fun z2 => (l_X7_putBack_2 n2 z2 (i1_2 + 1)))) else (k_X7_putBack_27 S_2))
def f_X7_putBack (S : CS) : CS := (l_X7_putBack_2 319 S 0)
set_option maxRecDepth 100000 in
set_option maxHeartbeats 8000000 in
theorem c_X7_putBack (l : Launch) (g : GT) (h : Nat) (ad : Nat → Nat) (S : CS) : CW l yX7_putBack (.code yX7_putBack cX7_putBack 2 none) 0 g [.ref h] (wMo g h ad S) none (wMo g h ad (f_X7_putBack S)) := by
  obtain ⟨RES, hRES⟩ : ∃ z, z = (f_X7_putBack S) := ⟨_, rfl⟩
  rw [← hRES]
  unfold f_X7_putBack at hRES
  refine CWx.of (nL := 2) (ret := none) (own := RX7) (cc := cX7_putBack) rfl (by decide) rfl (List.forall_mem_cons.mpr ⟨rfl, (fun _ h => absurd h List.not_mem_nil)⟩) (Nat.le_of_ble_eq_true rfl) ?_
  intro k C B hin hkl hkg
  subst hkl; subst hkg
  refine x_loc2 (L' := [some (.ref h), none]) rfl ?_
  refine x_iconst (v := 0) (pc' := 1) C dX7_putBack_0 rfl (by decide) ?_
  refine x_istore_n (pc' := 2) (L' := [some (.ref h), some (.int 0)]) C dX7_putBack_1 rfl rfl (Nat.le_of_ble_eq_true rfl) rfl ?_
  have cont27 : ∀ (S_27 : CS), RES = k_X7_putBack_27 S_27 → X k 0 0 (wMo (kg k) h ad S_27) 27 [none, none] [] := by
    intro S_27 hRES
    unfold k_X7_putBack_27 at hRES
    exact x_vret C (Nat.zero_le _) (Nat.zero_le _) dX7_putBack_27 ⟨rfl, by rw [hRES]⟩
  have loop2 : ∀ (n2 : Nat) (S_2 : CS) (i1_2 : Nat), i1_2 ≤ 318 → 318 < i1_2 + n2 → RES = l_X7_putBack_2 n2 S_2 i1_2 → X k 0 0 (wMo (kg k) h ad S_2) 2 [some (.ref h), some (.int (nI i1_2))] [] := by
    intro n2
    induction n2 with
    | zero =>
      intro S_2 i1_2 hb2 hf2 hRES
      omega
    | succ n2 ih2 =>
      intro S_2 i1_2 hb2 hf2 hRES
      rw [l_X7_putBack_2] at hRES
      refine x_iload_n (pc' := 3) C dX7_putBack_2 rfl rfl rfl ?_
      refine x_sipush (v := 318) (pc' := 6) C dX7_putBack_3 rfl (by decide) ?_
      refine x_icmpN_ge (tgt := 27) (pc' := 9) C i1_2 318 dX7_putBack_6 (by decide) rfl (by omega) (by omega) (fun c1 => ?_) (fun c1 => ?_)
      · rw [if_neg c1] at hRES
        refine x_forget (L' := [none, none]) [] rfl rfl ?_
        exact cont27 S_2 hRES
      · rw [if_pos c1] at hRES
        refine x_aload_n (pc' := 10) C dX7_putBack_9 rfl rfl rfl ?_
        refine x_get (pc' := 13) (v := .ref (ad 0)) C 0 0 inBX7 rfl rfl (by decide) fl_X7_7 rfl rfl dX7_putBack_10 rfl ?_
        refine x_iload_n (pc' := 14) C dX7_putBack_13 rfl rfl rfl ?_
        refine x_aload_n (pc' := 15) C dX7_putBack_14 rfl rfl rfl ?_
        refine x_get (pc' := 18) (v := .ref (ad 1)) C 0 1 inBX7 rfl rfl (by decide) fl_X7_13 rfl rfl dX7_putBack_15 rfl ?_
        refine x_iload_n (pc' := 19) C dX7_putBack_18 rfl rfl rfl ?_
        refine x_ialdN (pc' := 20) (f := S_2.2 1) (j := i1_2) (v := ((S_2.2 1) i1_2)) C 2 rfl (by omega) (by decide) rfl dX7_putBack_19 rfl ?_
        obtain ⟨z2, ez2⟩ : ∃ z, z = (setF S_2 0 (upd (S_2.2 0) i1_2 ((S_2.2 1) i1_2))) := ⟨_, rfl⟩
        replace hRES := bd hRES z2 ez2
        refine x_iastN (pc' := 21) (f := S_2.2 0) (j := i1_2) (w' := wMo (kg k) h ad z2) C B 1 rfl (by omega) (by decide) dX7_putBack_20 rfl (by rw [ez2]; rfl) ?_
        refine x_iinc (pc' := 24) (v := (nI (i1_2 + 1))) (L' := [some (.ref h), some (.int (nI (i1_2 + 1)))]) C dX7_putBack_21 rfl rfl (nI_add i1_2 1) (Nat.le_of_ble_eq_true rfl) rfl ?_
        refine x_goto (tgt := 2) C dX7_putBack_24 (by decide) ?_
        exact ih2 z2 (i1_2 + 1) (by omega) (by omega) hRES
  exact loop2 319 S 0 (by omega) (by omega) hRES

def k_X7_act_91 (a1 : Int32) (S_91 : CS) : Int32 × CS := (bind1 (setI S_91 3 (S_91.1 3 + 1)) (fun z3 => (a1, z3)))
def ok_X7_act_91 (S_91 : CS) : Prop := (bind1 (setI S_91 3 (S_91.1 3 + 1)) (fun z3 => True))
def l_X7_act_57 (a1 : Int32) : Nat → CS → Nat → Int32 × CS
  | 0, _, _ => (0, dfCS)
  | n57 + 1, S_57, i2_57 => (if i2_57 < 318 then (bind1 (setF S_57 2 (upd (S_57.2 2) (((318 * S_57.1 3) + (nI i2_57))).toNatClampNeg ((S_57.2 1) i2_57))) (fun z6 => (l_X7_act_57 a1 n57 z6 (i2_57 + 1)))) else (k_X7_act_91 a1 S_57))
def ol_X7_act_57 : Nat → CS → Nat → Prop
  | 0, _, _ => True
  | n57 + 1, S_57, i2_57 => ((i2_57 < 318 → (vp_in ((318 * S_57.1 3) + (nI i2_57)) 1272 ∧ (bind1 (setF S_57 2 (upd (S_57.2 2) (((318 * S_57.1 3) + (nI i2_57))).toNatClampNeg ((S_57.2 1) i2_57))) (fun z6 => (ol_X7_act_57 n57 z6 (i2_57 + 1)))))) ∧ (¬ (i2_57 < 318) → (ok_X7_act_91 S_57)))
def k_X7_act_91b (a1 : Int32) (S_91b : CS) : Int32 × CS := (bind1 (setI S_91b 3 (S_91b.1 3 + 1)) (fun z8 => (a1, z8)))
def ok_X7_act_91b (S_91b : CS) : Prop := (bind1 (setI S_91b 3 (S_91b.1 3 + 1)) (fun z8 => True))
def l_X7_act_57b (a1 : Int32) : Nat → CS → Nat → Int32 × CS
  | 0, _, _ => (0, dfCS)
  | n57b + 1, S_57b, i2_57b => (if i2_57b < 318 then (bind1 (setF S_57b 2 (upd (S_57b.2 2) (((318 * S_57b.1 3) + (nI i2_57b))).toNatClampNeg ((S_57b.2 1) i2_57b))) (fun z11 => (l_X7_act_57b a1 n57b z11 (i2_57b + 1)))) else (k_X7_act_91b a1 S_57b))
def ol_X7_act_57b : Nat → CS → Nat → Prop
  | 0, _, _ => True
  | n57b + 1, S_57b, i2_57b => ((i2_57b < 318 → (vp_in ((318 * S_57b.1 3) + (nI i2_57b)) 1272 ∧ (bind1 (setF S_57b 2 (upd (S_57b.2 2) (((318 * S_57b.1 3) + (nI i2_57b))).toNatClampNeg ((S_57b.2 1) i2_57b))) (fun z11 => (ol_X7_act_57b n57b z11 (i2_57b + 1)))))) ∧ (¬ (i2_57b < 318) → (ok_X7_act_91b S_57b)))
def k_X7_act_45 (a1 : Int32) (S_45 : CS) : Int32 × CS := (bind1 (setI S_45 3 (S_45.1 3 - 1)) (fun z7 => (l_X7_act_57b a1 319 z7 0)))
def ok_X7_act_45 (S_45 : CS) : Prop := (bind1 (setI S_45 3 (S_45.1 3 - 1)) (fun z7 => (ol_X7_act_57b 319 z7 0)))
def l_X7_act_16 (a1 : Int32) : Nat → CS → Nat → Int32 × CS
  | 0, _, _ => (0, dfCS)
  | n16 + 1, S_16, i2_16 => (if i2_16 < 954 then (bind1 (setF S_16 2 (upd (S_16.2 2) i2_16 ((S_16.2 2) (318 + i2_16)))) (fun z13 => (l_X7_act_16 a1 n16 z13 (i2_16 + 1)))) else (k_X7_act_45 a1 S_16))
def ol_X7_act_16 : Nat → CS → Nat → Prop
  | 0, _, _ => True
  | n16 + 1, S_16, i2_16 => ((i2_16 < 954 → (bind1 (setF S_16 2 (upd (S_16.2 2) i2_16 ((S_16.2 2) (318 + i2_16)))) (fun z13 => (ol_X7_act_16 n16 z13 (i2_16 + 1))))) ∧ (¬ (i2_16 < 954) → (ok_X7_act_45 S_16)))
def f_X7_act (S : CS) (a1 : Int32) : Int32 × CS := (if a1 < 0 then (a1, S) else (if S.1 3 = 4 then (l_X7_act_16 a1 955 S 0) else (l_X7_act_57 a1 319 S 0)))
def o_X7_act (S : CS) (a1 : Int32) : Prop := ((a1 < 0 → True) ∧ (¬ (a1 < 0) → ((S.1 3 = 4 → (ol_X7_act_16 955 S 0)) ∧ (¬ (S.1 3 = 4) → (ol_X7_act_57 319 S 0)))))
set_option maxRecDepth 100000 in
set_option maxHeartbeats 8000000 in
theorem c_X7_act (l : Launch) (g : GT) (h : Nat) (ad : Nat → Nat) (S : CS) (a1 : Int32) (hok : o_X7_act S a1) : CW l yX7_act (.code yX7_act cX7_act 3 (some .int)) 0 g [.ref h, .int a1] (wMo g h ad S) (some (.int (f_X7_act S a1).1)) (wMo g h ad (f_X7_act S a1).2) := by
  obtain ⟨RES, hRES⟩ : ∃ z, z = (f_X7_act S a1) := ⟨_, rfl⟩
  rw [← hRES]
  unfold f_X7_act at hRES
  unfold o_X7_act at hok
  refine CWx.of (nL := 3) (ret := (some .int)) (own := RX7) (cc := cX7_act) rfl (by decide) rfl (List.forall_mem_cons.mpr ⟨rfl, (List.forall_mem_cons.mpr ⟨rfl, (fun _ h => absurd h List.not_mem_nil)⟩)⟩) (Nat.le_of_ble_eq_true rfl) ?_
  intro k C B hin hkl hkg
  subst hkl; subst hkg
  refine x_loc2 (L' := [some (.ref h), some (.int a1), none]) rfl ?_
  refine x_iload_n (pc' := 1) C dX7_act_0 rfl rfl rfl ?_
  refine x_if_ge (tgt := 6) (pc' := 4) C dX7_act_1 (by decide) rfl (fun c1 => ?_) (fun c1 => ?_)
  · rw [if_neg c1] at hRES
    replace hok := hok.2 c1
    refine x_aload_n (pc' := 7) C dX7_act_6 rfl rfl rfl ?_
    refine x_get (pc' := 10) (v := .int (S.1 3)) C 0 3 inBX7 rfl rfl (by decide) fl_X7_40 rfl rfl dX7_act_7 rfl ?_
    refine x_iconst (v := 4) (pc' := 11) C dX7_act_10 rfl (by decide) ?_
    refine x_icmp_ne (tgt := 55) (pc' := 14) C dX7_act_11 (by decide) rfl (fun c2 => ?_) (fun c2 => ?_)
    · rw [if_neg c2] at hRES
      replace hok := hok.2 c2
      refine x_iconst (v := 0) (pc' := 56) C dX7_act_55 rfl (by decide) ?_
      refine x_istore_n (pc' := 57) (L' := [some (.ref h), some (.int a1), some (.int 0)]) C dX7_act_56 rfl rfl (Nat.le_of_ble_eq_true rfl) rfl ?_
      have cont91 : ∀ (S_91 : CS), RES = k_X7_act_91 a1 S_91 → ok_X7_act_91 S_91 → X k 0 0 (wMo (kg k) h ad S_91) 91 [some (.ref h), some (.int a1), none] [] := by
        intro S_91 hRES hok
        unfold k_X7_act_91 at hRES
        unfold ok_X7_act_91 at hok
        refine x_aload_n (pc' := 92) C dX7_act_91 rfl rfl rfl ?_
        refine x_dup (pc' := 93) C dX7_act_92 rfl rfl ?_
        refine x_get (pc' := 96) (v := .int (S_91.1 3)) C 0 3 inBX7 rfl rfl (by decide) fl_X7_40 rfl rfl dX7_act_93 rfl ?_
        refine x_iconst (v := 1) (pc' := 97) C dX7_act_96 rfl (by decide) ?_
        refine x_iadd (pc' := 98) (v := (S_91.1 3 + 1)) C dX7_act_97 rfl rfl ?_
        obtain ⟨z3, ez3⟩ : ∃ z, z = (setI S_91 3 (S_91.1 3 + 1)) := ⟨_, rfl⟩
        replace hRES := bd hRES z3 ez3
        replace hok := bdP hok z3 ez3
        refine x_put (pc' := 101) (w' := wMo (kg k) h ad z3) (ty := .int) C B 0 3 inBX7 tyX7 tyX7_ok nmX7 rfl rfl (by decide) fl_X7_40 rfl rfl rfl rfl rfl (Nat.le_of_ble_eq_true rfl) dX7_act_98 rfl (by rw [ez3]; rfl) ?_
        refine x_iload_n (pc' := 102) C dX7_act_101 rfl rfl rfl ?_
        exact x_iret C (Nat.zero_le _) (Nat.zero_le _) dX7_act_102 ⟨by rw [hRES], by rw [hRES]⟩
      have loop57 : ∀ (n57 : Nat) (S_57 : CS) (i2_57 : Nat), i2_57 ≤ 318 → 318 < i2_57 + n57 → RES = l_X7_act_57 a1 n57 S_57 i2_57 → ol_X7_act_57 n57 S_57 i2_57 → X k 0 0 (wMo (kg k) h ad S_57) 57 [some (.ref h), some (.int a1), some (.int (nI i2_57))] [] := by
        intro n57
        induction n57 with
        | zero =>
          intro S_57 i2_57 hb57 hf57 hRES hok
          omega
        | succ n57 ih57 =>
          intro S_57 i2_57 hb57 hf57 hRES hok
          rw [l_X7_act_57] at hRES
          rw [ol_X7_act_57] at hok
          refine x_iload_n (pc' := 58) C dX7_act_57 rfl rfl rfl ?_
          refine x_sipush (v := 318) (pc' := 61) C dX7_act_58 rfl (by decide) ?_
          refine x_icmpN_ge (tgt := 91) (pc' := 64) C i2_57 318 dX7_act_61 (by decide) rfl (by omega) (by omega) (fun c4 => ?_) (fun c4 => ?_)
          · rw [if_neg c4] at hRES
            replace hok := hok.2 c4
            refine x_forget (L' := [some (.ref h), some (.int a1), none]) [0, 1] rfl rfl ?_
            exact cont91 S_57 hRES hok
          · rw [if_pos c4] at hRES
            replace hok := hok.1 c4
            refine x_aload_n (pc' := 65) C dX7_act_64 rfl rfl rfl ?_
            refine x_get (pc' := 68) (v := .ref (ad 2)) C 0 2 inBX7 rfl rfl (by decide) fl_X7_16 rfl rfl dX7_act_65 rfl ?_
            refine x_sipush (v := 318) (pc' := 71) C dX7_act_68 rfl (by decide) ?_
            refine x_aload_n (pc' := 72) C dX7_act_71 rfl rfl rfl ?_
            refine x_get (pc' := 75) (v := .int (S_57.1 3)) C 0 3 inBX7 rfl rfl (by decide) fl_X7_40 rfl rfl dX7_act_72 rfl ?_
            refine x_imul (pc' := 76) (v := (318 * S_57.1 3)) C dX7_act_75 rfl rfl ?_
            refine x_iload_n (pc' := 77) C dX7_act_76 rfl rfl rfl ?_
            refine x_iadd (pc' := 78) (v := ((318 * S_57.1 3) + (nI i2_57))) C dX7_act_77 rfl rfl ?_
            refine x_aload_n (pc' := 79) C dX7_act_78 rfl rfl rfl ?_
            refine x_get (pc' := 82) (v := .ref (ad 1)) C 0 1 inBX7 rfl rfl (by decide) fl_X7_13 rfl rfl dX7_act_79 rfl ?_
            refine x_iload_n (pc' := 83) C dX7_act_82 rfl rfl rfl ?_
            refine x_ialdN (pc' := 84) (f := S_57.2 1) (j := i2_57) (v := ((S_57.2 1) i2_57)) C 2 rfl (by omega) (by decide) rfl dX7_act_83 rfl ?_
            obtain ⟨hn5, hok⟩ := hok
            obtain ⟨z6, ez6⟩ : ∃ z, z = (setF S_57 2 (upd (S_57.2 2) (((318 * S_57.1 3) + (nI i2_57))).toNatClampNeg ((S_57.2 1) i2_57))) := ⟨_, rfl⟩
            replace hRES := bd hRES z6 ez6
            replace hok := bdP hok z6 ez6
            refine x_iast (pc' := 85) (f := S_57.2 2) (w' := wMo (kg k) h ad z6) C B 3 rfl hn5 dX7_act_84 rfl (by rw [ez6]; rfl) ?_
            refine x_iinc (pc' := 88) (v := (nI (i2_57 + 1))) (L' := [some (.ref h), some (.int a1), some (.int (nI (i2_57 + 1)))]) C dX7_act_85 rfl rfl (nI_add i2_57 1) (Nat.le_of_ble_eq_true rfl) rfl ?_
            refine x_goto (tgt := 57) C dX7_act_88 (by decide) ?_
            exact ih57 z6 (i2_57 + 1) (by omega) (by omega) hRES hok
      exact loop57 319 S 0 (by omega) (by omega) hRES hok
    · rw [if_pos c2] at hRES
      replace hok := hok.1 c2
      refine x_iconst (v := 0) (pc' := 15) C dX7_act_14 rfl (by decide) ?_
      refine x_istore_n (pc' := 16) (L' := [some (.ref h), some (.int a1), some (.int 0)]) C dX7_act_15 rfl rfl (Nat.le_of_ble_eq_true rfl) rfl ?_
      have cont45 : ∀ (S_45 : CS), RES = k_X7_act_45 a1 S_45 → ok_X7_act_45 S_45 → X k 0 0 (wMo (kg k) h ad S_45) 45 [some (.ref h), some (.int a1), none] [] := by
        intro S_45 hRES hok
        unfold k_X7_act_45 at hRES
        unfold ok_X7_act_45 at hok
        refine x_aload_n (pc' := 46) C dX7_act_45 rfl rfl rfl ?_
        refine x_dup (pc' := 47) C dX7_act_46 rfl rfl ?_
        refine x_get (pc' := 50) (v := .int (S_45.1 3)) C 0 3 inBX7 rfl rfl (by decide) fl_X7_40 rfl rfl dX7_act_47 rfl ?_
        refine x_iconst (v := 1) (pc' := 51) C dX7_act_50 rfl (by decide) ?_
        refine x_isub (pc' := 52) (v := (S_45.1 3 - 1)) C dX7_act_51 rfl rfl ?_
        obtain ⟨z7, ez7⟩ : ∃ z, z = (setI S_45 3 (S_45.1 3 - 1)) := ⟨_, rfl⟩
        replace hRES := bd hRES z7 ez7
        replace hok := bdP hok z7 ez7
        refine x_put (pc' := 55) (w' := wMo (kg k) h ad z7) (ty := .int) C B 0 3 inBX7 tyX7 tyX7_ok nmX7 rfl rfl (by decide) fl_X7_40 rfl rfl rfl rfl rfl (Nat.le_of_ble_eq_true rfl) dX7_act_52 rfl (by rw [ez7]; rfl) ?_
        refine x_iconst (v := 0) (pc' := 56) C dX7_act_55 rfl (by decide) ?_
        refine x_istore_n (pc' := 57) (L' := [some (.ref h), some (.int a1), some (.int 0)]) C dX7_act_56 rfl rfl (Nat.le_of_ble_eq_true rfl) rfl ?_
        have cont91b : ∀ (S_91b : CS), RES = k_X7_act_91b a1 S_91b → ok_X7_act_91b S_91b → X k 0 0 (wMo (kg k) h ad S_91b) 91 [some (.ref h), some (.int a1), none] [] := by
          intro S_91b hRES hok
          unfold k_X7_act_91b at hRES
          unfold ok_X7_act_91b at hok
          refine x_aload_n (pc' := 92) C dX7_act_91 rfl rfl rfl ?_
          refine x_dup (pc' := 93) C dX7_act_92 rfl rfl ?_
          refine x_get (pc' := 96) (v := .int (S_91b.1 3)) C 0 3 inBX7 rfl rfl (by decide) fl_X7_40 rfl rfl dX7_act_93 rfl ?_
          refine x_iconst (v := 1) (pc' := 97) C dX7_act_96 rfl (by decide) ?_
          refine x_iadd (pc' := 98) (v := (S_91b.1 3 + 1)) C dX7_act_97 rfl rfl ?_
          obtain ⟨z8, ez8⟩ : ∃ z, z = (setI S_91b 3 (S_91b.1 3 + 1)) := ⟨_, rfl⟩
          replace hRES := bd hRES z8 ez8
          replace hok := bdP hok z8 ez8
          refine x_put (pc' := 101) (w' := wMo (kg k) h ad z8) (ty := .int) C B 0 3 inBX7 tyX7 tyX7_ok nmX7 rfl rfl (by decide) fl_X7_40 rfl rfl rfl rfl rfl (Nat.le_of_ble_eq_true rfl) dX7_act_98 rfl (by rw [ez8]; rfl) ?_
          refine x_iload_n (pc' := 102) C dX7_act_101 rfl rfl rfl ?_
          exact x_iret C (Nat.zero_le _) (Nat.zero_le _) dX7_act_102 ⟨by rw [hRES], by rw [hRES]⟩
        have loop57b : ∀ (n57b : Nat) (S_57b : CS) (i2_57b : Nat), i2_57b ≤ 318 → 318 < i2_57b + n57b → RES = l_X7_act_57b a1 n57b S_57b i2_57b → ol_X7_act_57b n57b S_57b i2_57b → X k 0 0 (wMo (kg k) h ad S_57b) 57 [some (.ref h), some (.int a1), some (.int (nI i2_57b))] [] := by
          intro n57b
          induction n57b with
          | zero =>
            intro S_57b i2_57b hb57b hf57b hRES hok
            omega
          | succ n57b ih57b =>
            intro S_57b i2_57b hb57b hf57b hRES hok
            rw [l_X7_act_57b] at hRES
            rw [ol_X7_act_57b] at hok
            refine x_iload_n (pc' := 58) C dX7_act_57 rfl rfl rfl ?_
            refine x_sipush (v := 318) (pc' := 61) C dX7_act_58 rfl (by decide) ?_
            refine x_icmpN_ge (tgt := 91) (pc' := 64) C i2_57b 318 dX7_act_61 (by decide) rfl (by omega) (by omega) (fun c9 => ?_) (fun c9 => ?_)
            · rw [if_neg c9] at hRES
              replace hok := hok.2 c9
              refine x_forget (L' := [some (.ref h), some (.int a1), none]) [0, 1] rfl rfl ?_
              exact cont91b S_57b hRES hok
            · rw [if_pos c9] at hRES
              replace hok := hok.1 c9
              refine x_aload_n (pc' := 65) C dX7_act_64 rfl rfl rfl ?_
              refine x_get (pc' := 68) (v := .ref (ad 2)) C 0 2 inBX7 rfl rfl (by decide) fl_X7_16 rfl rfl dX7_act_65 rfl ?_
              refine x_sipush (v := 318) (pc' := 71) C dX7_act_68 rfl (by decide) ?_
              refine x_aload_n (pc' := 72) C dX7_act_71 rfl rfl rfl ?_
              refine x_get (pc' := 75) (v := .int (S_57b.1 3)) C 0 3 inBX7 rfl rfl (by decide) fl_X7_40 rfl rfl dX7_act_72 rfl ?_
              refine x_imul (pc' := 76) (v := (318 * S_57b.1 3)) C dX7_act_75 rfl rfl ?_
              refine x_iload_n (pc' := 77) C dX7_act_76 rfl rfl rfl ?_
              refine x_iadd (pc' := 78) (v := ((318 * S_57b.1 3) + (nI i2_57b))) C dX7_act_77 rfl rfl ?_
              refine x_aload_n (pc' := 79) C dX7_act_78 rfl rfl rfl ?_
              refine x_get (pc' := 82) (v := .ref (ad 1)) C 0 1 inBX7 rfl rfl (by decide) fl_X7_13 rfl rfl dX7_act_79 rfl ?_
              refine x_iload_n (pc' := 83) C dX7_act_82 rfl rfl rfl ?_
              refine x_ialdN (pc' := 84) (f := S_57b.2 1) (j := i2_57b) (v := ((S_57b.2 1) i2_57b)) C 2 rfl (by omega) (by decide) rfl dX7_act_83 rfl ?_
              obtain ⟨hn10, hok⟩ := hok
              obtain ⟨z11, ez11⟩ : ∃ z, z = (setF S_57b 2 (upd (S_57b.2 2) (((318 * S_57b.1 3) + (nI i2_57b))).toNatClampNeg ((S_57b.2 1) i2_57b))) := ⟨_, rfl⟩
              replace hRES := bd hRES z11 ez11
              replace hok := bdP hok z11 ez11
              refine x_iast (pc' := 85) (f := S_57b.2 2) (w' := wMo (kg k) h ad z11) C B 3 rfl hn10 dX7_act_84 rfl (by rw [ez11]; rfl) ?_
              refine x_iinc (pc' := 88) (v := (nI (i2_57b + 1))) (L' := [some (.ref h), some (.int a1), some (.int (nI (i2_57b + 1)))]) C dX7_act_85 rfl rfl (nI_add i2_57b 1) (Nat.le_of_ble_eq_true rfl) rfl ?_
              refine x_goto (tgt := 57) C dX7_act_88 (by decide) ?_
              exact ih57b z11 (i2_57b + 1) (by omega) (by omega) hRES hok
        exact loop57b 319 z7 0 (by omega) (by omega) hRES hok
      have loop16 : ∀ (n16 : Nat) (S_16 : CS) (i2_16 : Nat), i2_16 ≤ 954 → 954 < i2_16 + n16 → RES = l_X7_act_16 a1 n16 S_16 i2_16 → ol_X7_act_16 n16 S_16 i2_16 → X k 0 0 (wMo (kg k) h ad S_16) 16 [some (.ref h), some (.int a1), some (.int (nI i2_16))] [] := by
        intro n16
        induction n16 with
        | zero =>
          intro S_16 i2_16 hb16 hf16 hRES hok
          omega
        | succ n16 ih16 =>
          intro S_16 i2_16 hb16 hf16 hRES hok
          rw [l_X7_act_16] at hRES
          rw [ol_X7_act_16] at hok
          refine x_iload_n (pc' := 17) C dX7_act_16 rfl rfl rfl ?_
          refine x_sipush (v := 954) (pc' := 20) C dX7_act_17 rfl (by decide) ?_
          refine x_icmpN_ge (tgt := 45) (pc' := 23) C i2_16 954 dX7_act_20 (by decide) rfl (by omega) (by omega) (fun c12 => ?_) (fun c12 => ?_)
          · rw [if_neg c12] at hRES
            replace hok := hok.2 c12
            refine x_forget (L' := [some (.ref h), some (.int a1), none]) [0, 1] rfl rfl ?_
            exact cont45 S_16 hRES hok
          · rw [if_pos c12] at hRES
            replace hok := hok.1 c12
            refine x_aload_n (pc' := 24) C dX7_act_23 rfl rfl rfl ?_
            refine x_get (pc' := 27) (v := .ref (ad 2)) C 0 2 inBX7 rfl rfl (by decide) fl_X7_16 rfl rfl dX7_act_24 rfl ?_
            refine x_iload_n (pc' := 28) C dX7_act_27 rfl rfl rfl ?_
            refine x_aload_n (pc' := 29) C dX7_act_28 rfl rfl rfl ?_
            refine x_get (pc' := 32) (v := .ref (ad 2)) C 0 2 inBX7 rfl rfl (by decide) fl_X7_16 rfl rfl dX7_act_29 rfl ?_
            refine x_sipush (v := 318) (pc' := 35) C dX7_act_32 rfl (by decide) ?_
            refine x_iload_n (pc' := 36) C dX7_act_35 rfl rfl rfl ?_
            refine x_iadd (pc' := 37) (v := (nI (318 + i2_16))) C dX7_act_36 rfl (nI_add 318 i2_16) ?_
            refine x_ialdN (pc' := 38) (f := S_16.2 2) (j := (318 + i2_16)) (v := ((S_16.2 2) (318 + i2_16))) C 3 rfl (by omega) (by decide) rfl dX7_act_37 rfl ?_
            obtain ⟨z13, ez13⟩ : ∃ z, z = (setF S_16 2 (upd (S_16.2 2) i2_16 ((S_16.2 2) (318 + i2_16)))) := ⟨_, rfl⟩
            replace hRES := bd hRES z13 ez13
            replace hok := bdP hok z13 ez13
            refine x_iastN (pc' := 39) (f := S_16.2 2) (j := i2_16) (w' := wMo (kg k) h ad z13) C B 3 rfl (by omega) (by decide) dX7_act_38 rfl (by rw [ez13]; rfl) ?_
            refine x_iinc (pc' := 42) (v := (nI (i2_16 + 1))) (L' := [some (.ref h), some (.int a1), some (.int (nI (i2_16 + 1)))]) C dX7_act_39 rfl rfl (nI_add i2_16 1) (Nat.le_of_ble_eq_true rfl) rfl ?_
            refine x_goto (tgt := 16) C dX7_act_42 (by decide) ?_
            exact ih16 z13 (i2_16 + 1) (by omega) (by omega) hRES hok
      exact loop16 955 S 0 (by omega) (by omega) hRES hok
  · rw [if_pos c1] at hRES
    replace hok := hok.1 c1
    refine x_iload_n (pc' := 5) C dX7_act_4 rfl rfl rfl ?_
    exact x_iret C (Nat.zero_le _) (Nat.zero_le _) dX7_act_5 ⟨by rw [hRES], by rw [hRES]⟩

def k_X7_cellsUnlike_58 (x3_58 : Int32) : Int32 := x3_58
def ok_X7_cellsUnlike_58 (x3_58 : Int32) : Prop := True
def l_X7_cellsUnlike_5 (S : CS) (a1 : Int32) (a2 : Int32) : Nat → Int32 → Nat → Int32
  | 0, _, _ => 0
  | n5 + 1, x3_5, i4_5 => (if i4_5 < 8 then (if ((S.2 0) ((f_X7_of a1 (nI (5 + i4_5)))).toNatClampNeg) = ((S.2 0) ((f_X7_of a2 (nI (5 + i4_5)))).toNatClampNeg) then (l_X7_cellsUnlike_5 S a1 a2 n5 (x3_5 ||| 0) (i4_5 + 1)) else (l_X7_cellsUnlike_5 S a1 a2 n5 (x3_5 ||| (1 <<< ((nI i4_5) &&& 31))) (i4_5 + 1))) else (k_X7_cellsUnlike_58 x3_5))
def ol_X7_cellsUnlike_5 (S : CS) (a1 : Int32) (a2 : Int32) : Nat → Int32 → Nat → Prop
  | 0, _, _ => True
  | n5 + 1, x3_5, i4_5 => ((i4_5 < 8 → (vp_in (f_X7_of a1 (nI (5 + i4_5))) 318 ∧ (vp_in (f_X7_of a2 (nI (5 + i4_5))) 318 ∧ ((((S.2 0) ((f_X7_of a1 (nI (5 + i4_5)))).toNatClampNeg) = ((S.2 0) ((f_X7_of a2 (nI (5 + i4_5)))).toNatClampNeg) → (ol_X7_cellsUnlike_5 S a1 a2 n5 (x3_5 ||| 0) (i4_5 + 1))) ∧ (¬ ((S.2 0) ((f_X7_of a1 (nI (5 + i4_5)))).toNatClampNeg) = ((S.2 0) ((f_X7_of a2 (nI (5 + i4_5)))).toNatClampNeg) → (ol_X7_cellsUnlike_5 S a1 a2 n5 (x3_5 ||| (1 <<< ((nI i4_5) &&& 31))) (i4_5 + 1))))))) ∧ (¬ (i4_5 < 8) → (ok_X7_cellsUnlike_58 x3_5)))
def f_X7_cellsUnlike (S : CS) (a1 : Int32) (a2 : Int32) : Int32 := (l_X7_cellsUnlike_5 S a1 a2 9 0 0)
def o_X7_cellsUnlike (S : CS) (a1 : Int32) (a2 : Int32) : Prop := (ol_X7_cellsUnlike_5 S a1 a2 9 0 0)
set_option maxRecDepth 100000 in
set_option maxHeartbeats 8000000 in
theorem c_X7_cellsUnlike (l : Launch) (g : GT) (h : Nat) (ad : Nat → Nat) (S : CS) (a1 : Int32) (a2 : Int32) (hok : o_X7_cellsUnlike S a1 a2) : CR l yX7_cellsUnlike (.code yX7_cellsUnlike cX7_cellsUnlike 5 (some .int)) 1 g [.ref h, .int a1, .int a2] (wMo g h ad S) (some (.int (f_X7_cellsUnlike S a1 a2))) := by
  obtain ⟨RES, hRES⟩ : ∃ z, z = (f_X7_cellsUnlike S a1 a2) := ⟨_, rfl⟩
  rw [← hRES]
  unfold f_X7_cellsUnlike at hRES
  unfold o_X7_cellsUnlike at hok
  refine CRx.of (nL := 5) (ret := (some .int)) (own := RX7) (cc := cX7_cellsUnlike) rfl (by decide) rfl (List.forall_mem_cons.mpr ⟨rfl, (List.forall_mem_cons.mpr ⟨rfl, (List.forall_mem_cons.mpr ⟨rfl, (fun _ h => absurd h List.not_mem_nil)⟩)⟩)⟩) (Nat.le_of_ble_eq_true rfl) ?_
  intro k C hkl hkg
  subst hkl; subst hkg
  refine x_loc2 (L' := [some (.ref h), some (.int a1), some (.int a2), none, none]) rfl ?_
  refine x_iconst (v := 0) (pc' := 1) C dX7_cellsUnlike_0 rfl (by decide) ?_
  refine x_istore_n (pc' := 2) (L' := [some (.ref h), some (.int a1), some (.int a2), some (.int 0), none]) C dX7_cellsUnlike_1 rfl rfl (Nat.le_of_ble_eq_true rfl) rfl ?_
  refine x_iconst (v := 0) (pc' := 3) C dX7_cellsUnlike_2 rfl (by decide) ?_
  refine x_istore (pc' := 5) (L' := [some (.ref h), some (.int a1), some (.int a2), some (.int 0), some (.int 0)]) C dX7_cellsUnlike_3 rfl (Nat.le_of_ble_eq_true rfl) rfl ?_
  have cont58 : ∀ (x3_58 : Int32), RES = k_X7_cellsUnlike_58 x3_58 → ok_X7_cellsUnlike_58 x3_58 → X k 0 0 (wMo (kg k) h ad S) 58 [none, none, none, some (.int x3_58), none] [] := by
    intro x3_58 hRES hok
    unfold k_X7_cellsUnlike_58 at hRES
    unfold ok_X7_cellsUnlike_58 at hok
    refine x_iload_n (pc' := 59) C dX7_cellsUnlike_58 rfl rfl rfl ?_
    exact x_iret C (Nat.zero_le _) (Nat.zero_le _) dX7_cellsUnlike_59 (by rw [hRES])
  have loop5 : ∀ (n5 : Nat) (x3_5 : Int32) (i4_5 : Nat), i4_5 ≤ 8 → 8 < i4_5 + n5 → RES = l_X7_cellsUnlike_5 S a1 a2 n5 x3_5 i4_5 → ol_X7_cellsUnlike_5 S a1 a2 n5 x3_5 i4_5 → X k 0 0 (wMo (kg k) h ad S) 5 [some (.ref h), some (.int a1), some (.int a2), some (.int x3_5), some (.int (nI i4_5))] [] := by
    intro n5
    induction n5 with
    | zero =>
      intro x3_5 i4_5 hb5 hf5 hRES hok
      omega
    | succ n5 ih5 =>
      intro x3_5 i4_5 hb5 hf5 hRES hok
      rw [l_X7_cellsUnlike_5] at hRES
      rw [ol_X7_cellsUnlike_5] at hok
      refine x_iload (pc' := 7) C dX7_cellsUnlike_5 rfl rfl ?_
      refine x_bipush (v := 8) (pc' := 9) C dX7_cellsUnlike_7 rfl (by decide) ?_
      refine x_icmpN_ge (tgt := 58) (pc' := 12) C i4_5 8 dX7_cellsUnlike_9 (by decide) rfl (by omega) (by omega) (fun c1 => ?_) (fun c1 => ?_)
      · rw [if_neg c1] at hRES
        replace hok := hok.2 c1
        refine x_forget (L' := [none, none, none, some (.int x3_5), none]) [3] rfl rfl ?_
        exact cont58 x3_5 hRES hok
      · rw [if_pos c1] at hRES
        replace hok := hok.1 c1
        refine x_iload_n (pc' := 13) C dX7_cellsUnlike_12 rfl rfl rfl ?_
        refine x_aload_n (pc' := 14) C dX7_cellsUnlike_13 rfl rfl rfl ?_
        refine x_get (pc' := 17) (v := .ref (ad 0)) C 0 0 inBX7 rfl rfl (by decide) fl_X7_7 rfl rfl dX7_cellsUnlike_14 rfl ?_
        refine x_iload_n (pc' := 18) C dX7_cellsUnlike_17 rfl rfl rfl ?_
        refine x_iconst (v := 5) (pc' := 19) C dX7_cellsUnlike_18 rfl (by decide) ?_
        refine x_iload (pc' := 21) C dX7_cellsUnlike_19 rfl rfl ?_
        refine x_iadd (pc' := 22) (v := (nI (5 + i4_5))) C dX7_cellsUnlike_21 rfl (nI_add 5 i4_5) ?_
        refine x_RS (st := [.ref (ad 0), .int x3_5]) (st2 := [.int (f_X7_of a1 (nI (5 + i4_5))), .ref (ad 0), .int x3_5]) (pc' := 25) C (c_X7_of (kl k) (kg k) a1 (nI (5 + i4_5))) cw_X7_32 ok_X7_of (by decide) [] rfl rfl rfl (Nat.le_of_ble_eq_true rfl) (Nat.zero_le _) (Nat.zero_le _) rfl dX7_cellsUnlike_22 rfl rfl ?_
        obtain ⟨hn2, hok⟩ := hok
        refine x_iald (pc' := 26) (f := S.2 0) (v := ((S.2 0) ((f_X7_of a1 (nI (5 + i4_5)))).toNatClampNeg)) C 1 rfl hn2 rfl dX7_cellsUnlike_25 rfl ?_
        refine x_aload_n (pc' := 27) C dX7_cellsUnlike_26 rfl rfl rfl ?_
        refine x_get (pc' := 30) (v := .ref (ad 0)) C 0 0 inBX7 rfl rfl (by decide) fl_X7_7 rfl rfl dX7_cellsUnlike_27 rfl ?_
        refine x_iload_n (pc' := 31) C dX7_cellsUnlike_30 rfl rfl rfl ?_
        refine x_iconst (v := 5) (pc' := 32) C dX7_cellsUnlike_31 rfl (by decide) ?_
        refine x_iload (pc' := 34) C dX7_cellsUnlike_32 rfl rfl ?_
        refine x_iadd (pc' := 35) (v := (nI (5 + i4_5))) C dX7_cellsUnlike_34 rfl (nI_add 5 i4_5) ?_
        refine x_RS (st := [.ref (ad 0), .int ((S.2 0) ((f_X7_of a1 (nI (5 + i4_5)))).toNatClampNeg), .int x3_5]) (st2 := [.int (f_X7_of a2 (nI (5 + i4_5))), .ref (ad 0), .int ((S.2 0) ((f_X7_of a1 (nI (5 + i4_5)))).toNatClampNeg), .int x3_5]) (pc' := 38) C (c_X7_of (kl k) (kg k) a2 (nI (5 + i4_5))) cw_X7_32 ok_X7_of (by decide) [] rfl rfl rfl (Nat.le_of_ble_eq_true rfl) (Nat.zero_le _) (Nat.zero_le _) rfl dX7_cellsUnlike_35 rfl rfl ?_
        obtain ⟨hn3, hok⟩ := hok
        refine x_iald (pc' := 39) (f := S.2 0) (v := ((S.2 0) ((f_X7_of a2 (nI (5 + i4_5)))).toNatClampNeg)) C 1 rfl hn3 rfl dX7_cellsUnlike_38 rfl ?_
        refine x_icmp_eq (tgt := 49) (pc' := 42) C dX7_cellsUnlike_39 (by decide) rfl (fun c4 => ?_) (fun c4 => ?_)
        · rw [if_pos c4] at hRES
          replace hok := hok.1 c4
          refine x_iconst (v := 0) (pc' := 50) C dX7_cellsUnlike_49 rfl (by decide) ?_
          refine x_ior (pc' := 51) (v := (x3_5 ||| 0)) C dX7_cellsUnlike_50 rfl rfl ?_
          refine x_istore_n (pc' := 52) (L' := [some (.ref h), some (.int a1), some (.int a2), some (.int (x3_5 ||| 0)), some (.int (nI i4_5))]) C dX7_cellsUnlike_51 rfl rfl (Nat.le_of_ble_eq_true rfl) rfl ?_
          refine x_iinc (pc' := 55) (v := (nI (i4_5 + 1))) (L' := [some (.ref h), some (.int a1), some (.int a2), some (.int (x3_5 ||| 0)), some (.int (nI (i4_5 + 1)))]) C dX7_cellsUnlike_52 rfl rfl (nI_add i4_5 1) (Nat.le_of_ble_eq_true rfl) rfl ?_
          refine x_goto (tgt := 5) C dX7_cellsUnlike_55 (by decide) ?_
          exact ih5 (x3_5 ||| 0) (i4_5 + 1) (by omega) (by omega) hRES hok
        · rw [if_neg c4] at hRES
          replace hok := hok.2 c4
          refine x_iconst (v := 1) (pc' := 43) C dX7_cellsUnlike_42 rfl (by decide) ?_
          refine x_iload (pc' := 45) C dX7_cellsUnlike_43 rfl rfl ?_
          refine x_ishl (pc' := 46) (v := (1 <<< ((nI i4_5) &&& 31))) C dX7_cellsUnlike_45 rfl rfl ?_
          refine x_goto (tgt := 50) C dX7_cellsUnlike_46 (by decide) ?_
          refine x_ior (pc' := 51) (v := (x3_5 ||| (1 <<< ((nI i4_5) &&& 31)))) C dX7_cellsUnlike_50 rfl rfl ?_
          refine x_istore_n (pc' := 52) (L' := [some (.ref h), some (.int a1), some (.int a2), some (.int (x3_5 ||| (1 <<< ((nI i4_5) &&& 31)))), some (.int (nI i4_5))]) C dX7_cellsUnlike_51 rfl rfl (Nat.le_of_ble_eq_true rfl) rfl ?_
          refine x_iinc (pc' := 55) (v := (nI (i4_5 + 1))) (L' := [some (.ref h), some (.int a1), some (.int a2), some (.int (x3_5 ||| (1 <<< ((nI i4_5) &&& 31)))), some (.int (nI (i4_5 + 1)))]) C dX7_cellsUnlike_52 rfl rfl (nI_add i4_5 1) (Nat.le_of_ble_eq_true rfl) rfl ?_
          refine x_goto (tgt := 5) C dX7_cellsUnlike_55 (by decide) ?_
          exact ih5 (x3_5 ||| (1 <<< ((nI i4_5) &&& 31))) (i4_5 + 1) (by omega) (by omega) hRES hok
  exact loop5 9 0 0 (by omega) (by omega) hRES hok

def k_X7_unlikeCells_55 (x3_55 : Int32) : Int32 := x3_55
def ok_X7_unlikeCells_55 (x3_55 : Int32) : Prop := True
def l_X7_unlikeCells_5 (S : CS) (a1 : Int32) (a2 : Int32) : Nat → Int32 → Nat → Int32
  | 0, _, _ => 0
  | n5 + 1, x3_5, i4_5 => (if i4_5 < 8 then (if ((S.2 0) ((f_X7_of a1 (nI (5 + i4_5)))).toNatClampNeg) = ((S.2 0) ((f_X7_of a2 (nI (5 + i4_5)))).toNatClampNeg) then (l_X7_unlikeCells_5 S a1 a2 n5 (x3_5 + 0) (i4_5 + 1)) else (l_X7_unlikeCells_5 S a1 a2 n5 (x3_5 + 1) (i4_5 + 1))) else (k_X7_unlikeCells_55 x3_5))
def ol_X7_unlikeCells_5 (S : CS) (a1 : Int32) (a2 : Int32) : Nat → Int32 → Nat → Prop
  | 0, _, _ => True
  | n5 + 1, x3_5, i4_5 => ((i4_5 < 8 → (vp_in (f_X7_of a1 (nI (5 + i4_5))) 318 ∧ (vp_in (f_X7_of a2 (nI (5 + i4_5))) 318 ∧ ((((S.2 0) ((f_X7_of a1 (nI (5 + i4_5)))).toNatClampNeg) = ((S.2 0) ((f_X7_of a2 (nI (5 + i4_5)))).toNatClampNeg) → (ol_X7_unlikeCells_5 S a1 a2 n5 (x3_5 + 0) (i4_5 + 1))) ∧ (¬ ((S.2 0) ((f_X7_of a1 (nI (5 + i4_5)))).toNatClampNeg) = ((S.2 0) ((f_X7_of a2 (nI (5 + i4_5)))).toNatClampNeg) → (ol_X7_unlikeCells_5 S a1 a2 n5 (x3_5 + 1) (i4_5 + 1))))))) ∧ (¬ (i4_5 < 8) → (ok_X7_unlikeCells_55 x3_5)))
def f_X7_unlikeCells (S : CS) (a1 : Int32) (a2 : Int32) : Int32 := (l_X7_unlikeCells_5 S a1 a2 9 0 0)
def o_X7_unlikeCells (S : CS) (a1 : Int32) (a2 : Int32) : Prop := (ol_X7_unlikeCells_5 S a1 a2 9 0 0)
set_option maxRecDepth 100000 in
set_option maxHeartbeats 8000000 in
theorem c_X7_unlikeCells (l : Launch) (g : GT) (h : Nat) (ad : Nat → Nat) (S : CS) (a1 : Int32) (a2 : Int32) (hok : o_X7_unlikeCells S a1 a2) : CR l yX7_unlikeCells (.code yX7_unlikeCells cX7_unlikeCells 5 (some .int)) 1 g [.ref h, .int a1, .int a2] (wMo g h ad S) (some (.int (f_X7_unlikeCells S a1 a2))) := by
  obtain ⟨RES, hRES⟩ : ∃ z, z = (f_X7_unlikeCells S a1 a2) := ⟨_, rfl⟩
  rw [← hRES]
  unfold f_X7_unlikeCells at hRES
  unfold o_X7_unlikeCells at hok
  refine CRx.of (nL := 5) (ret := (some .int)) (own := RX7) (cc := cX7_unlikeCells) rfl (by decide) rfl (List.forall_mem_cons.mpr ⟨rfl, (List.forall_mem_cons.mpr ⟨rfl, (List.forall_mem_cons.mpr ⟨rfl, (fun _ h => absurd h List.not_mem_nil)⟩)⟩)⟩) (Nat.le_of_ble_eq_true rfl) ?_
  intro k C hkl hkg
  subst hkl; subst hkg
  refine x_loc2 (L' := [some (.ref h), some (.int a1), some (.int a2), none, none]) rfl ?_
  refine x_iconst (v := 0) (pc' := 1) C dX7_unlikeCells_0 rfl (by decide) ?_
  refine x_istore_n (pc' := 2) (L' := [some (.ref h), some (.int a1), some (.int a2), some (.int 0), none]) C dX7_unlikeCells_1 rfl rfl (Nat.le_of_ble_eq_true rfl) rfl ?_
  refine x_iconst (v := 0) (pc' := 3) C dX7_unlikeCells_2 rfl (by decide) ?_
  refine x_istore (pc' := 5) (L' := [some (.ref h), some (.int a1), some (.int a2), some (.int 0), some (.int 0)]) C dX7_unlikeCells_3 rfl (Nat.le_of_ble_eq_true rfl) rfl ?_
  have cont55 : ∀ (x3_55 : Int32), RES = k_X7_unlikeCells_55 x3_55 → ok_X7_unlikeCells_55 x3_55 → X k 0 0 (wMo (kg k) h ad S) 55 [none, none, none, some (.int x3_55), none] [] := by
    intro x3_55 hRES hok
    unfold k_X7_unlikeCells_55 at hRES
    unfold ok_X7_unlikeCells_55 at hok
    refine x_iload_n (pc' := 56) C dX7_unlikeCells_55 rfl rfl rfl ?_
    exact x_iret C (Nat.zero_le _) (Nat.zero_le _) dX7_unlikeCells_56 (by rw [hRES])
  have loop5 : ∀ (n5 : Nat) (x3_5 : Int32) (i4_5 : Nat), i4_5 ≤ 8 → 8 < i4_5 + n5 → RES = l_X7_unlikeCells_5 S a1 a2 n5 x3_5 i4_5 → ol_X7_unlikeCells_5 S a1 a2 n5 x3_5 i4_5 → X k 0 0 (wMo (kg k) h ad S) 5 [some (.ref h), some (.int a1), some (.int a2), some (.int x3_5), some (.int (nI i4_5))] [] := by
    intro n5
    induction n5 with
    | zero =>
      intro x3_5 i4_5 hb5 hf5 hRES hok
      omega
    | succ n5 ih5 =>
      intro x3_5 i4_5 hb5 hf5 hRES hok
      rw [l_X7_unlikeCells_5] at hRES
      rw [ol_X7_unlikeCells_5] at hok
      refine x_iload (pc' := 7) C dX7_unlikeCells_5 rfl rfl ?_
      refine x_bipush (v := 8) (pc' := 9) C dX7_unlikeCells_7 rfl (by decide) ?_
      refine x_icmpN_ge (tgt := 55) (pc' := 12) C i4_5 8 dX7_unlikeCells_9 (by decide) rfl (by omega) (by omega) (fun c1 => ?_) (fun c1 => ?_)
      · rw [if_neg c1] at hRES
        replace hok := hok.2 c1
        refine x_forget (L' := [none, none, none, some (.int x3_5), none]) [3] rfl rfl ?_
        exact cont55 x3_5 hRES hok
      · rw [if_pos c1] at hRES
        replace hok := hok.1 c1
        refine x_iload_n (pc' := 13) C dX7_unlikeCells_12 rfl rfl rfl ?_
        refine x_aload_n (pc' := 14) C dX7_unlikeCells_13 rfl rfl rfl ?_
        refine x_get (pc' := 17) (v := .ref (ad 0)) C 0 0 inBX7 rfl rfl (by decide) fl_X7_7 rfl rfl dX7_unlikeCells_14 rfl ?_
        refine x_iload_n (pc' := 18) C dX7_unlikeCells_17 rfl rfl rfl ?_
        refine x_iconst (v := 5) (pc' := 19) C dX7_unlikeCells_18 rfl (by decide) ?_
        refine x_iload (pc' := 21) C dX7_unlikeCells_19 rfl rfl ?_
        refine x_iadd (pc' := 22) (v := (nI (5 + i4_5))) C dX7_unlikeCells_21 rfl (nI_add 5 i4_5) ?_
        refine x_RS (st := [.ref (ad 0), .int x3_5]) (st2 := [.int (f_X7_of a1 (nI (5 + i4_5))), .ref (ad 0), .int x3_5]) (pc' := 25) C (c_X7_of (kl k) (kg k) a1 (nI (5 + i4_5))) cw_X7_32 ok_X7_of (by decide) [] rfl rfl rfl (Nat.le_of_ble_eq_true rfl) (Nat.zero_le _) (Nat.zero_le _) rfl dX7_unlikeCells_22 rfl rfl ?_
        obtain ⟨hn2, hok⟩ := hok
        refine x_iald (pc' := 26) (f := S.2 0) (v := ((S.2 0) ((f_X7_of a1 (nI (5 + i4_5)))).toNatClampNeg)) C 1 rfl hn2 rfl dX7_unlikeCells_25 rfl ?_
        refine x_aload_n (pc' := 27) C dX7_unlikeCells_26 rfl rfl rfl ?_
        refine x_get (pc' := 30) (v := .ref (ad 0)) C 0 0 inBX7 rfl rfl (by decide) fl_X7_7 rfl rfl dX7_unlikeCells_27 rfl ?_
        refine x_iload_n (pc' := 31) C dX7_unlikeCells_30 rfl rfl rfl ?_
        refine x_iconst (v := 5) (pc' := 32) C dX7_unlikeCells_31 rfl (by decide) ?_
        refine x_iload (pc' := 34) C dX7_unlikeCells_32 rfl rfl ?_
        refine x_iadd (pc' := 35) (v := (nI (5 + i4_5))) C dX7_unlikeCells_34 rfl (nI_add 5 i4_5) ?_
        refine x_RS (st := [.ref (ad 0), .int ((S.2 0) ((f_X7_of a1 (nI (5 + i4_5)))).toNatClampNeg), .int x3_5]) (st2 := [.int (f_X7_of a2 (nI (5 + i4_5))), .ref (ad 0), .int ((S.2 0) ((f_X7_of a1 (nI (5 + i4_5)))).toNatClampNeg), .int x3_5]) (pc' := 38) C (c_X7_of (kl k) (kg k) a2 (nI (5 + i4_5))) cw_X7_32 ok_X7_of (by decide) [] rfl rfl rfl (Nat.le_of_ble_eq_true rfl) (Nat.zero_le _) (Nat.zero_le _) rfl dX7_unlikeCells_35 rfl rfl ?_
        obtain ⟨hn3, hok⟩ := hok
        refine x_iald (pc' := 39) (f := S.2 0) (v := ((S.2 0) ((f_X7_of a2 (nI (5 + i4_5)))).toNatClampNeg)) C 1 rfl hn3 rfl dX7_unlikeCells_38 rfl ?_
        refine x_icmp_eq (tgt := 46) (pc' := 42) C dX7_unlikeCells_39 (by decide) rfl (fun c4 => ?_) (fun c4 => ?_)
        · rw [if_pos c4] at hRES
          replace hok := hok.1 c4
          refine x_iconst (v := 0) (pc' := 47) C dX7_unlikeCells_46 rfl (by decide) ?_
          refine x_iadd (pc' := 48) (v := (x3_5 + 0)) C dX7_unlikeCells_47 rfl rfl ?_
          refine x_istore_n (pc' := 49) (L' := [some (.ref h), some (.int a1), some (.int a2), some (.int (x3_5 + 0)), some (.int (nI i4_5))]) C dX7_unlikeCells_48 rfl rfl (Nat.le_of_ble_eq_true rfl) rfl ?_
          refine x_iinc (pc' := 52) (v := (nI (i4_5 + 1))) (L' := [some (.ref h), some (.int a1), some (.int a2), some (.int (x3_5 + 0)), some (.int (nI (i4_5 + 1)))]) C dX7_unlikeCells_49 rfl rfl (nI_add i4_5 1) (Nat.le_of_ble_eq_true rfl) rfl ?_
          refine x_goto (tgt := 5) C dX7_unlikeCells_52 (by decide) ?_
          exact ih5 (x3_5 + 0) (i4_5 + 1) (by omega) (by omega) hRES hok
        · rw [if_neg c4] at hRES
          replace hok := hok.2 c4
          refine x_iconst (v := 1) (pc' := 43) C dX7_unlikeCells_42 rfl (by decide) ?_
          refine x_goto (tgt := 47) C dX7_unlikeCells_43 (by decide) ?_
          refine x_iadd (pc' := 48) (v := (x3_5 + 1)) C dX7_unlikeCells_47 rfl rfl ?_
          refine x_istore_n (pc' := 49) (L' := [some (.ref h), some (.int a1), some (.int a2), some (.int (x3_5 + 1)), some (.int (nI i4_5))]) C dX7_unlikeCells_48 rfl rfl (Nat.le_of_ble_eq_true rfl) rfl ?_
          refine x_iinc (pc' := 52) (v := (nI (i4_5 + 1))) (L' := [some (.ref h), some (.int a1), some (.int a2), some (.int (x3_5 + 1)), some (.int (nI (i4_5 + 1)))]) C dX7_unlikeCells_49 rfl rfl (nI_add i4_5 1) (Nat.le_of_ble_eq_true rfl) rfl ?_
          refine x_goto (tgt := 5) C dX7_unlikeCells_52 (by decide) ?_
          exact ih5 (x3_5 + 1) (i4_5 + 1) (by omega) (by omega) hRES hok
  exact loop5 9 0 0 (by omega) (by omega) hRES hok

def f_X7_hangs (S : CS) (a1 : Int32) : Bool := (if 0 < a1 then (if ((S.2 0) ((f_X7_of a1 2)).toNatClampNeg) = 1 then true else false) else false)
def o_X7_hangs (S : CS) (a1 : Int32) : Prop := ((0 < a1 → (vp_in (f_X7_of a1 2) 318 ∧ ((((S.2 0) ((f_X7_of a1 2)).toNatClampNeg) = 1 → True) ∧ (¬ ((S.2 0) ((f_X7_of a1 2)).toNatClampNeg) = 1 → True)))) ∧ (¬ (0 < a1) → True))
set_option maxRecDepth 100000 in
set_option maxHeartbeats 8000000 in
theorem c_X7_hangs (l : Launch) (g : GT) (h : Nat) (ad : Nat → Nat) (S : CS) (a1 : Int32) (hok : o_X7_hangs S a1) : CR l yX7_hangs (.code yX7_hangs cX7_hangs 2 (some .boolean)) 1 g [.ref h, .int a1] (wMo g h ad S) (some (.int (bI (f_X7_hangs S a1)))) := by
  obtain ⟨RES, hRES⟩ : ∃ z, z = (f_X7_hangs S a1) := ⟨_, rfl⟩
  rw [← hRES]
  unfold f_X7_hangs at hRES
  unfold o_X7_hangs at hok
  refine CRx.of (nL := 2) (ret := (some .boolean)) (own := RX7) (cc := cX7_hangs) rfl (by decide) rfl (List.forall_mem_cons.mpr ⟨rfl, (List.forall_mem_cons.mpr ⟨rfl, (fun _ h => absurd h List.not_mem_nil)⟩)⟩) (Nat.le_of_ble_eq_true rfl) ?_
  intro k C hkl hkg
  subst hkl; subst hkg
  refine x_loc2 (L' := [some (.ref h), some (.int a1)]) rfl ?_
  refine x_iload_n (pc' := 1) C dX7_hangs_0 rfl rfl rfl ?_
  refine x_if_le (tgt := 22) (pc' := 4) C dX7_hangs_1 (by decide) rfl (fun c1 => ?_) (fun c1 => ?_)
  · rw [if_neg c1] at hRES
    replace hok := hok.2 c1
    refine x_iconst (v := 0) (pc' := 23) C dX7_hangs_22 rfl (by decide) ?_
    exact x_zret (b := false) C (Nat.zero_le _) (Nat.zero_le _) dX7_hangs_23 (by rw [hRES])
  · rw [if_pos c1] at hRES
    replace hok := hok.1 c1
    refine x_aload_n (pc' := 5) C dX7_hangs_4 rfl rfl rfl ?_
    refine x_get (pc' := 8) (v := .ref (ad 0)) C 0 0 inBX7 rfl rfl (by decide) fl_X7_7 rfl rfl dX7_hangs_5 rfl ?_
    refine x_iload_n (pc' := 9) C dX7_hangs_8 rfl rfl rfl ?_
    refine x_iconst (v := 2) (pc' := 10) C dX7_hangs_9 rfl (by decide) ?_
    refine x_RS (st := [.ref (ad 0)]) (st2 := [.int (f_X7_of a1 2), .ref (ad 0)]) (pc' := 13) C (c_X7_of (kl k) (kg k) a1 2) cw_X7_32 ok_X7_of (by decide) [] rfl rfl rfl (Nat.le_of_ble_eq_true rfl) (Nat.zero_le _) (Nat.zero_le _) rfl dX7_hangs_10 rfl rfl ?_
    obtain ⟨hn2, hok⟩ := hok
    refine x_iald (pc' := 14) (f := S.2 0) (v := ((S.2 0) ((f_X7_of a1 2)).toNatClampNeg)) C 1 rfl hn2 rfl dX7_hangs_13 rfl ?_
    refine x_iconst (v := 1) (pc' := 15) C dX7_hangs_14 rfl (by decide) ?_
    refine x_icmp_ne (tgt := 22) (pc' := 18) C dX7_hangs_15 (by decide) rfl (fun c3 => ?_) (fun c3 => ?_)
    · rw [if_neg c3] at hRES
      replace hok := hok.2 c3
      refine x_iconst (v := 0) (pc' := 23) C dX7_hangs_22 rfl (by decide) ?_
      exact x_zret (b := false) C (Nat.zero_le _) (Nat.zero_le _) dX7_hangs_23 (by rw [hRES])
    · rw [if_pos c3] at hRES
      replace hok := hok.1 c3
      refine x_iconst (v := 1) (pc' := 19) C dX7_hangs_18 rfl (by decide) ?_
      refine x_goto (tgt := 23) C dX7_hangs_19 (by decide) ?_
      exact x_zret (b := true) C (Nat.zero_le _) (Nat.zero_le _) dX7_hangs_23 (by rw [hRES])

def k_X7_top_24 (x2_24 : Int32) : Int32 := x2_24
def ok_X7_top_24 (x2_24 : Int32) : Prop := True
def l_X7_top_2 (S : CS) : Nat → Int32 → Int32
  | 0, _ => 0
  | n2 + 1, x2_2 => (if (f_X7_hangs S x2_2) = true then (l_X7_top_2 S n2 ((S.2 0) ((f_X7_of x2_2 1)).toNatClampNeg)) else (k_X7_top_24 x2_2))
def ol_X7_top_2 (S : CS) : Nat → Int32 → Prop
  | 0, _ => False
  | n2 + 1, x2_2 => ((o_X7_hangs S x2_2) ∧ (((f_X7_hangs S x2_2) = true → (vp_in (f_X7_of x2_2 1) 318 ∧ (ol_X7_top_2 S n2 ((S.2 0) ((f_X7_of x2_2 1)).toNatClampNeg)))) ∧ (¬ (f_X7_hangs S x2_2) = true → (ok_X7_top_24 x2_2))))
def f_X7_top (S : CS) (a1 : Int32) : Int32 := (l_X7_top_2 S 25 a1)
def o_X7_top (S : CS) (a1 : Int32) : Prop := (ol_X7_top_2 S 25 a1)
set_option maxRecDepth 100000 in
set_option maxHeartbeats 8000000 in
theorem c_X7_top (l : Launch) (g : GT) (h : Nat) (ad : Nat → Nat) (S : CS) (a1 : Int32) (hok : o_X7_top S a1) : CR l yX7_top (.code yX7_top cX7_top 3 (some .int)) 2 g [.ref h, .int a1] (wMo g h ad S) (some (.int (f_X7_top S a1))) := by
  obtain ⟨RES, hRES⟩ : ∃ z, z = (f_X7_top S a1) := ⟨_, rfl⟩
  rw [← hRES]
  unfold f_X7_top at hRES
  unfold o_X7_top at hok
  refine CRx.of (nL := 3) (ret := (some .int)) (own := RX7) (cc := cX7_top) rfl (by decide) rfl (List.forall_mem_cons.mpr ⟨rfl, (List.forall_mem_cons.mpr ⟨rfl, (fun _ h => absurd h List.not_mem_nil)⟩)⟩) (Nat.le_of_ble_eq_true rfl) ?_
  intro k C hkl hkg
  subst hkl; subst hkg
  refine x_loc2 (L' := [some (.ref h), some (.int a1), none]) rfl ?_
  refine x_iload_n (pc' := 1) C dX7_top_0 rfl rfl rfl ?_
  refine x_istore_n (pc' := 2) (L' := [some (.ref h), some (.int a1), some (.int a1)]) C dX7_top_1 rfl rfl (Nat.le_of_ble_eq_true rfl) rfl ?_
  have cont24 : ∀ (x2_24 : Int32), RES = k_X7_top_24 x2_24 → ok_X7_top_24 x2_24 → X k 0 0 (wMo (kg k) h ad S) 24 [none, none, some (.int x2_24)] [] := by
    intro x2_24 hRES hok
    unfold k_X7_top_24 at hRES
    unfold ok_X7_top_24 at hok
    refine x_iload_n (pc' := 25) C dX7_top_24 rfl rfl rfl ?_
    exact x_iret C (Nat.zero_le _) (Nat.zero_le _) dX7_top_25 (by rw [hRES])
  have loop2 : ∀ (n2 : Nat) (x2_2 : Int32), RES = l_X7_top_2 S n2 x2_2 → ol_X7_top_2 S n2 x2_2 → X k 0 0 (wMo (kg k) h ad S) 2 [some (.ref h), none, some (.int x2_2)] [] := by
    intro n2
    induction n2 with
    | zero =>
      intro x2_2 hRES hok
      exact (show False from hok).elim
    | succ n2 ih2 =>
      intro x2_2 hRES hok
      rw [l_X7_top_2] at hRES
      rw [ol_X7_top_2] at hok
      refine x_aload_n (pc' := 3) C dX7_top_2 rfl rfl rfl ?_
      refine x_iload_n (pc' := 4) C dX7_top_3 rfl rfl rfl ?_
      obtain ⟨hn1, hok⟩ := hok
      refine x_RV (st := []) (st2 := [.int (bI (f_X7_hangs S x2_2))]) (pc' := 7) C (c_X7_hangs (kl k) (kg k) h ad S x2_2 hn1) cw_X7_43 ok_X7_hangs rfl (by decide) 0 rfl rfl [0, 1, 2, 3, 4, 5, 6] rfl rfl rfl (Nat.le_of_ble_eq_true rfl) (Nat.zero_le _) (Nat.zero_le _) rfl dX7_top_4 rfl rfl ?_
      refine x_ifB_eq (tgt := 24) (pc' := 10) C dX7_top_7 (by decide) rfl (fun c2 => ?_) (fun c2 => ?_)
      · rw [if_neg c2] at hRES
        replace hok := hok.2 c2
        refine x_forget (L' := [none, none, some (.int x2_2)]) [1] rfl rfl ?_
        exact cont24 x2_2 hRES hok
      · rw [if_pos c2] at hRES
        replace hok := hok.1 c2
        refine x_aload_n (pc' := 11) C dX7_top_10 rfl rfl rfl ?_
        refine x_get (pc' := 14) (v := .ref (ad 0)) C 0 0 inBX7 rfl rfl (by decide) fl_X7_7 rfl rfl dX7_top_11 rfl ?_
        refine x_iload_n (pc' := 15) C dX7_top_14 rfl rfl rfl ?_
        refine x_iconst (v := 1) (pc' := 16) C dX7_top_15 rfl (by decide) ?_
        refine x_RS (st := [.ref (ad 0)]) (st2 := [.int (f_X7_of x2_2 1), .ref (ad 0)]) (pc' := 19) C (c_X7_of (kl k) (kg k) x2_2 1) cw_X7_32 ok_X7_of (by decide) [] rfl rfl rfl (Nat.le_of_ble_eq_true rfl) (Nat.zero_le _) (Nat.zero_le _) rfl dX7_top_16 rfl rfl ?_
        obtain ⟨hn3, hok⟩ := hok
        refine x_iald (pc' := 20) (f := S.2 0) (v := ((S.2 0) ((f_X7_of x2_2 1)).toNatClampNeg)) C 1 rfl hn3 rfl dX7_top_19 rfl ?_
        refine x_istore_n (pc' := 21) (L' := [some (.ref h), none, some (.int ((S.2 0) ((f_X7_of x2_2 1)).toNatClampNeg))]) C dX7_top_20 rfl rfl (Nat.le_of_ble_eq_true rfl) rfl ?_
        refine x_goto (tgt := 2) C dX7_top_21 (by decide) ?_
        exact ih2 ((S.2 0) ((f_X7_of x2_2 1)).toNatClampNeg) hRES hok
  refine x_forget (L' := [some (.ref h), none, some (.int a1)]) [0, 2] rfl rfl ?_
  exact loop2 25 a1 hRES hok

def k_X7_rootOf_59 : Int32 := (-5)
def ok_X7_rootOf_59 : Prop := True
def l_X7_rootOf_8 (S : CS) (a1 : Int32) : Nat → Nat → Int32
  | 0, _ => 0
  | n8 + 1, i3_8 => (if i3_8 < 24 then (if ((S.2 0) ((f_X7_of (nI i3_8) 0)).toNatClampNeg) = 1 then (if ((S.2 0) ((f_X7_of (nI i3_8) 3)).toNatClampNeg) = 1 then (if (f_X7_top S (nI i3_8)) = (f_X7_top S a1) then (nI i3_8) else (l_X7_rootOf_8 S a1 n8 (i3_8 + 1))) else (l_X7_rootOf_8 S a1 n8 (i3_8 + 1))) else (l_X7_rootOf_8 S a1 n8 (i3_8 + 1))) else (k_X7_rootOf_59))
def ol_X7_rootOf_8 (S : CS) (a1 : Int32) : Nat → Nat → Prop
  | 0, _ => True
  | n8 + 1, i3_8 => ((i3_8 < 24 → (vp_in (f_X7_of (nI i3_8) 0) 318 ∧ ((((S.2 0) ((f_X7_of (nI i3_8) 0)).toNatClampNeg) = 1 → (vp_in (f_X7_of (nI i3_8) 3) 318 ∧ ((((S.2 0) ((f_X7_of (nI i3_8) 3)).toNatClampNeg) = 1 → ((o_X7_top S (nI i3_8)) ∧ (((f_X7_top S (nI i3_8)) = (f_X7_top S a1) → True) ∧ (¬ (f_X7_top S (nI i3_8)) = (f_X7_top S a1) → (ol_X7_rootOf_8 S a1 n8 (i3_8 + 1)))))) ∧ (¬ ((S.2 0) ((f_X7_of (nI i3_8) 3)).toNatClampNeg) = 1 → (ol_X7_rootOf_8 S a1 n8 (i3_8 + 1)))))) ∧ (¬ ((S.2 0) ((f_X7_of (nI i3_8) 0)).toNatClampNeg) = 1 → (ol_X7_rootOf_8 S a1 n8 (i3_8 + 1)))))) ∧ (¬ (i3_8 < 24) → (ok_X7_rootOf_59)))
def f_X7_rootOf (S : CS) (a1 : Int32) : Int32 := (l_X7_rootOf_8 S a1 25 0)
def o_X7_rootOf (S : CS) (a1 : Int32) : Prop := ((o_X7_top S a1) ∧ (ol_X7_rootOf_8 S a1 25 0))
set_option maxRecDepth 100000 in
set_option maxHeartbeats 8000000 in
theorem c_X7_rootOf (l : Launch) (g : GT) (h : Nat) (ad : Nat → Nat) (S : CS) (a1 : Int32) (hok : o_X7_rootOf S a1) : CR l yX7_rootOf (.code yX7_rootOf cX7_rootOf 4 (some .int)) 3 g [.ref h, .int a1] (wMo g h ad S) (some (.int (f_X7_rootOf S a1))) := by
  obtain ⟨RES, hRES⟩ : ∃ z, z = (f_X7_rootOf S a1) := ⟨_, rfl⟩
  rw [← hRES]
  unfold f_X7_rootOf at hRES
  unfold o_X7_rootOf at hok
  refine CRx.of (nL := 4) (ret := (some .int)) (own := RX7) (cc := cX7_rootOf) rfl (by decide) rfl (List.forall_mem_cons.mpr ⟨rfl, (List.forall_mem_cons.mpr ⟨rfl, (fun _ h => absurd h List.not_mem_nil)⟩)⟩) (Nat.le_of_ble_eq_true rfl) ?_
  intro k C hkl hkg
  subst hkl; subst hkg
  refine x_loc2 (L' := [some (.ref h), some (.int a1), none, none]) rfl ?_
  refine x_aload_n (pc' := 1) C dX7_rootOf_0 rfl rfl rfl ?_
  refine x_iload_n (pc' := 2) C dX7_rootOf_1 rfl rfl rfl ?_
  obtain ⟨hn1, hok⟩ := hok
  refine x_RV (st := []) (st2 := [.int (f_X7_top S a1)]) (pc' := 5) C (c_X7_top (kl k) (kg k) h ad S a1 hn1) cw_X7_47 ok_X7_top rfl (by decide) 0 rfl rfl [0, 1, 2, 3, 4, 5, 6] rfl rfl rfl (Nat.le_of_ble_eq_true rfl) (Nat.zero_le _) (Nat.zero_le _) rfl dX7_rootOf_2 rfl rfl ?_
  refine x_istore_n (pc' := 6) (L' := [some (.ref h), some (.int a1), some (.int (f_X7_top S a1)), none]) C dX7_rootOf_5 rfl rfl (Nat.le_of_ble_eq_true rfl) rfl ?_
  refine x_iconst (v := 0) (pc' := 7) C dX7_rootOf_6 rfl (by decide) ?_
  refine x_istore_n (pc' := 8) (L' := [some (.ref h), some (.int a1), some (.int (f_X7_top S a1)), some (.int 0)]) C dX7_rootOf_7 rfl rfl (Nat.le_of_ble_eq_true rfl) rfl ?_
  have cont59 : ∀ (_ : Unit), RES = k_X7_rootOf_59 → ok_X7_rootOf_59 → X k 0 0 (wMo (kg k) h ad S) 59 [none, none, none, none] [] := by
    intro _ hRES hok
    unfold k_X7_rootOf_59 at hRES
    unfold ok_X7_rootOf_59 at hok
    refine x_bipush (v := (-5)) (pc' := 61) C dX7_rootOf_59 rfl (by decide) ?_
    exact x_iret C (Nat.zero_le _) (Nat.zero_le _) dX7_rootOf_61 (by rw [hRES])
  have loop8 : ∀ (n8 : Nat) (i3_8 : Nat), i3_8 ≤ 24 → 24 < i3_8 + n8 → RES = l_X7_rootOf_8 S a1 n8 i3_8 → ol_X7_rootOf_8 S a1 n8 i3_8 → X k 0 0 (wMo (kg k) h ad S) 8 [some (.ref h), none, some (.int (f_X7_top S a1)), some (.int (nI i3_8))] [] := by
    intro n8
    induction n8 with
    | zero =>
      intro i3_8 hb8 hf8 hRES hok
      omega
    | succ n8 ih8 =>
      intro i3_8 hb8 hf8 hRES hok
      rw [l_X7_rootOf_8] at hRES
      rw [ol_X7_rootOf_8] at hok
      refine x_iload_n (pc' := 9) C dX7_rootOf_8 rfl rfl rfl ?_
      refine x_bipush (v := 24) (pc' := 11) C dX7_rootOf_9 rfl (by decide) ?_
      refine x_icmpN_ge (tgt := 59) (pc' := 14) C i3_8 24 dX7_rootOf_11 (by decide) rfl (by omega) (by omega) (fun c2 => ?_) (fun c2 => ?_)
      · rw [if_neg c2] at hRES
        replace hok := hok.2 c2
        refine x_forget (L' := [none, none, none, none]) [] rfl rfl ?_
        exact cont59 () hRES hok
      · rw [if_pos c2] at hRES
        replace hok := hok.1 c2
        refine x_aload_n (pc' := 15) C dX7_rootOf_14 rfl rfl rfl ?_
        refine x_get (pc' := 18) (v := .ref (ad 0)) C 0 0 inBX7 rfl rfl (by decide) fl_X7_7 rfl rfl dX7_rootOf_15 rfl ?_
        refine x_iload_n (pc' := 19) C dX7_rootOf_18 rfl rfl rfl ?_
        refine x_iconst (v := 0) (pc' := 20) C dX7_rootOf_19 rfl (by decide) ?_
        refine x_RS (st := [.ref (ad 0)]) (st2 := [.int (f_X7_of (nI i3_8) 0), .ref (ad 0)]) (pc' := 23) C (c_X7_of (kl k) (kg k) (nI i3_8) 0) cw_X7_32 ok_X7_of (by decide) [] rfl rfl rfl (Nat.le_of_ble_eq_true rfl) (Nat.zero_le _) (Nat.zero_le _) rfl dX7_rootOf_20 rfl rfl ?_
        obtain ⟨hn3, hok⟩ := hok
        refine x_iald (pc' := 24) (f := S.2 0) (v := ((S.2 0) ((f_X7_of (nI i3_8) 0)).toNatClampNeg)) C 1 rfl hn3 rfl dX7_rootOf_23 rfl ?_
        refine x_iconst (v := 1) (pc' := 25) C dX7_rootOf_24 rfl (by decide) ?_
        refine x_icmp_ne (tgt := 53) (pc' := 28) C dX7_rootOf_25 (by decide) rfl (fun c4 => ?_) (fun c4 => ?_)
        · rw [if_neg c4] at hRES
          replace hok := hok.2 c4
          refine x_iinc (pc' := 56) (v := (nI (i3_8 + 1))) (L' := [some (.ref h), none, some (.int (f_X7_top S a1)), some (.int (nI (i3_8 + 1)))]) C dX7_rootOf_53 rfl rfl (nI_add i3_8 1) (Nat.le_of_ble_eq_true rfl) rfl ?_
          refine x_goto (tgt := 8) C dX7_rootOf_56 (by decide) ?_
          exact ih8 (i3_8 + 1) (by omega) (by omega) hRES hok
        · rw [if_pos c4] at hRES
          replace hok := hok.1 c4
          refine x_aload_n (pc' := 29) C dX7_rootOf_28 rfl rfl rfl ?_
          refine x_get (pc' := 32) (v := .ref (ad 0)) C 0 0 inBX7 rfl rfl (by decide) fl_X7_7 rfl rfl dX7_rootOf_29 rfl ?_
          refine x_iload_n (pc' := 33) C dX7_rootOf_32 rfl rfl rfl ?_
          refine x_iconst (v := 3) (pc' := 34) C dX7_rootOf_33 rfl (by decide) ?_
          refine x_RS (st := [.ref (ad 0)]) (st2 := [.int (f_X7_of (nI i3_8) 3), .ref (ad 0)]) (pc' := 37) C (c_X7_of (kl k) (kg k) (nI i3_8) 3) cw_X7_32 ok_X7_of (by decide) [] rfl rfl rfl (Nat.le_of_ble_eq_true rfl) (Nat.zero_le _) (Nat.zero_le _) rfl dX7_rootOf_34 rfl rfl ?_
          obtain ⟨hn5, hok⟩ := hok
          refine x_iald (pc' := 38) (f := S.2 0) (v := ((S.2 0) ((f_X7_of (nI i3_8) 3)).toNatClampNeg)) C 1 rfl hn5 rfl dX7_rootOf_37 rfl ?_
          refine x_iconst (v := 1) (pc' := 39) C dX7_rootOf_38 rfl (by decide) ?_
          refine x_icmp_ne (tgt := 53) (pc' := 42) C dX7_rootOf_39 (by decide) rfl (fun c6 => ?_) (fun c6 => ?_)
          · rw [if_neg c6] at hRES
            replace hok := hok.2 c6
            refine x_iinc (pc' := 56) (v := (nI (i3_8 + 1))) (L' := [some (.ref h), none, some (.int (f_X7_top S a1)), some (.int (nI (i3_8 + 1)))]) C dX7_rootOf_53 rfl rfl (nI_add i3_8 1) (Nat.le_of_ble_eq_true rfl) rfl ?_
            refine x_goto (tgt := 8) C dX7_rootOf_56 (by decide) ?_
            exact ih8 (i3_8 + 1) (by omega) (by omega) hRES hok
          · rw [if_pos c6] at hRES
            replace hok := hok.1 c6
            refine x_aload_n (pc' := 43) C dX7_rootOf_42 rfl rfl rfl ?_
            refine x_iload_n (pc' := 44) C dX7_rootOf_43 rfl rfl rfl ?_
            obtain ⟨hn7, hok⟩ := hok
            refine x_RV (st := []) (st2 := [.int (f_X7_top S (nI i3_8))]) (pc' := 47) C (c_X7_top (kl k) (kg k) h ad S (nI i3_8) hn7) cw_X7_47 ok_X7_top rfl (by decide) 0 rfl rfl [0, 1, 2, 3, 4, 5, 6] rfl rfl rfl (Nat.le_of_ble_eq_true rfl) (Nat.zero_le _) (Nat.zero_le _) rfl dX7_rootOf_44 rfl rfl ?_
            refine x_iload_n (pc' := 48) C dX7_rootOf_47 rfl rfl rfl ?_
            refine x_icmp_ne (tgt := 53) (pc' := 51) C dX7_rootOf_48 (by decide) rfl (fun c8 => ?_) (fun c8 => ?_)
            · rw [if_neg c8] at hRES
              replace hok := hok.2 c8
              refine x_iinc (pc' := 56) (v := (nI (i3_8 + 1))) (L' := [some (.ref h), none, some (.int (f_X7_top S a1)), some (.int (nI (i3_8 + 1)))]) C dX7_rootOf_53 rfl rfl (nI_add i3_8 1) (Nat.le_of_ble_eq_true rfl) rfl ?_
              refine x_goto (tgt := 8) C dX7_rootOf_56 (by decide) ?_
              exact ih8 (i3_8 + 1) (by omega) (by omega) hRES hok
            · rw [if_pos c8] at hRES
              replace hok := hok.1 c8
              refine x_iload_n (pc' := 52) C dX7_rootOf_51 rfl rfl rfl ?_
              exact x_iret C (Nat.zero_le _) (Nat.zero_le _) dX7_rootOf_52 (by rw [hRES])
  refine x_forget (L' := [some (.ref h), none, some (.int (f_X7_top S a1)), some (.int 0)]) [0, 2, 3] rfl rfl ?_
  exact loop8 25 0 (by omega) (by omega) hRES hok

def k_X7_comesOf_29 (a2 : Int32) (x3_29 : Int32) : Bool := (if x3_29 = a2 then true else false)
def ok_X7_comesOf_29 (a2 : Int32) (x3_29 : Int32) : Prop := ((x3_29 = a2 → True) ∧ (¬ (x3_29 = a2) → True))
def l_X7_comesOf_2 (S : CS) (a2 : Int32) : Nat → Int32 → Bool
  | 0, _ => false
  | n2 + 1, x3_2 => (if x3_2 = a2 then (k_X7_comesOf_29 a2 x3_2) else (if (f_X7_hangs S x3_2) = true then (l_X7_comesOf_2 S a2 n2 ((S.2 0) ((f_X7_of x3_2 1)).toNatClampNeg)) else (k_X7_comesOf_29 a2 x3_2)))
def ol_X7_comesOf_2 (S : CS) (a2 : Int32) : Nat → Int32 → Prop
  | 0, _ => False
  | n2 + 1, x3_2 => ((x3_2 = a2 → (ok_X7_comesOf_29 a2 x3_2)) ∧ (¬ (x3_2 = a2) → ((o_X7_hangs S x3_2) ∧ (((f_X7_hangs S x3_2) = true → (vp_in (f_X7_of x3_2 1) 318 ∧ (ol_X7_comesOf_2 S a2 n2 ((S.2 0) ((f_X7_of x3_2 1)).toNatClampNeg)))) ∧ (¬ (f_X7_hangs S x3_2) = true → (ok_X7_comesOf_29 a2 x3_2))))))
def f_X7_comesOf (S : CS) (a1 : Int32) (a2 : Int32) : Bool := (l_X7_comesOf_2 S a2 25 a1)
def o_X7_comesOf (S : CS) (a1 : Int32) (a2 : Int32) : Prop := (ol_X7_comesOf_2 S a2 25 a1)
set_option maxRecDepth 100000 in
set_option maxHeartbeats 8000000 in
theorem c_X7_comesOf (l : Launch) (g : GT) (h : Nat) (ad : Nat → Nat) (S : CS) (a1 : Int32) (a2 : Int32) (hok : o_X7_comesOf S a1 a2) : CR l yX7_comesOf (.code yX7_comesOf cX7_comesOf 4 (some .boolean)) 2 g [.ref h, .int a1, .int a2] (wMo g h ad S) (some (.int (bI (f_X7_comesOf S a1 a2)))) := by
  obtain ⟨RES, hRES⟩ : ∃ z, z = (f_X7_comesOf S a1 a2) := ⟨_, rfl⟩
  rw [← hRES]
  unfold f_X7_comesOf at hRES
  unfold o_X7_comesOf at hok
  refine CRx.of (nL := 4) (ret := (some .boolean)) (own := RX7) (cc := cX7_comesOf) rfl (by decide) rfl (List.forall_mem_cons.mpr ⟨rfl, (List.forall_mem_cons.mpr ⟨rfl, (List.forall_mem_cons.mpr ⟨rfl, (fun _ h => absurd h List.not_mem_nil)⟩)⟩)⟩) (Nat.le_of_ble_eq_true rfl) ?_
  intro k C hkl hkg
  subst hkl; subst hkg
  refine x_loc2 (L' := [some (.ref h), some (.int a1), some (.int a2), none]) rfl ?_
  refine x_iload_n (pc' := 1) C dX7_comesOf_0 rfl rfl rfl ?_
  refine x_istore_n (pc' := 2) (L' := [some (.ref h), some (.int a1), some (.int a2), some (.int a1)]) C dX7_comesOf_1 rfl rfl (Nat.le_of_ble_eq_true rfl) rfl ?_
  have cont29 : ∀ (x3_29 : Int32), RES = k_X7_comesOf_29 a2 x3_29 → ok_X7_comesOf_29 a2 x3_29 → X k 0 0 (wMo (kg k) h ad S) 29 [none, none, some (.int a2), some (.int x3_29)] [] := by
    intro x3_29 hRES hok
    unfold k_X7_comesOf_29 at hRES
    unfold ok_X7_comesOf_29 at hok
    refine x_iload_n (pc' := 30) C dX7_comesOf_29 rfl rfl rfl ?_
    refine x_iload_n (pc' := 31) C dX7_comesOf_30 rfl rfl rfl ?_
    refine x_icmp_ne (tgt := 38) (pc' := 34) C dX7_comesOf_31 (by decide) rfl (fun c1 => ?_) (fun c1 => ?_)
    · rw [if_neg c1] at hRES
      replace hok := hok.2 c1
      refine x_iconst (v := 0) (pc' := 39) C dX7_comesOf_38 rfl (by decide) ?_
      exact x_zret (b := false) C (Nat.zero_le _) (Nat.zero_le _) dX7_comesOf_39 (by rw [hRES])
    · rw [if_pos c1] at hRES
      replace hok := hok.1 c1
      refine x_iconst (v := 1) (pc' := 35) C dX7_comesOf_34 rfl (by decide) ?_
      refine x_goto (tgt := 39) C dX7_comesOf_35 (by decide) ?_
      exact x_zret (b := true) C (Nat.zero_le _) (Nat.zero_le _) dX7_comesOf_39 (by rw [hRES])
  have loop2 : ∀ (n2 : Nat) (x3_2 : Int32), RES = l_X7_comesOf_2 S a2 n2 x3_2 → ol_X7_comesOf_2 S a2 n2 x3_2 → X k 0 0 (wMo (kg k) h ad S) 2 [some (.ref h), none, some (.int a2), some (.int x3_2)] [] := by
    intro n2
    induction n2 with
    | zero =>
      intro x3_2 hRES hok
      exact (show False from hok).elim
    | succ n2 ih2 =>
      intro x3_2 hRES hok
      rw [l_X7_comesOf_2] at hRES
      rw [ol_X7_comesOf_2] at hok
      refine x_iload_n (pc' := 3) C dX7_comesOf_2 rfl rfl rfl ?_
      refine x_iload_n (pc' := 4) C dX7_comesOf_3 rfl rfl rfl ?_
      refine x_icmp_eq (tgt := 29) (pc' := 7) C dX7_comesOf_4 (by decide) rfl (fun c2 => ?_) (fun c2 => ?_)
      · rw [if_pos c2] at hRES
        replace hok := hok.1 c2
        refine x_forget (L' := [none, none, some (.int a2), some (.int x3_2)]) [1, 2] rfl rfl ?_
        exact cont29 x3_2 hRES hok
      · rw [if_neg c2] at hRES
        replace hok := hok.2 c2
        refine x_aload_n (pc' := 8) C dX7_comesOf_7 rfl rfl rfl ?_
        refine x_iload_n (pc' := 9) C dX7_comesOf_8 rfl rfl rfl ?_
        obtain ⟨hn3, hok⟩ := hok
        refine x_RV (st := []) (st2 := [.int (bI (f_X7_hangs S x3_2))]) (pc' := 12) C (c_X7_hangs (kl k) (kg k) h ad S x3_2 hn3) cw_X7_43 ok_X7_hangs rfl (by decide) 0 rfl rfl [0, 1, 2, 3, 4, 5, 6] rfl rfl rfl (Nat.le_of_ble_eq_true rfl) (Nat.zero_le _) (Nat.zero_le _) rfl dX7_comesOf_9 rfl rfl ?_
        refine x_ifB_eq (tgt := 29) (pc' := 15) C dX7_comesOf_12 (by decide) rfl (fun c4 => ?_) (fun c4 => ?_)
        · rw [if_neg c4] at hRES
          replace hok := hok.2 c4
          refine x_forget (L' := [none, none, some (.int a2), some (.int x3_2)]) [1, 2] rfl rfl ?_
          exact cont29 x3_2 hRES hok
        · rw [if_pos c4] at hRES
          replace hok := hok.1 c4
          refine x_aload_n (pc' := 16) C dX7_comesOf_15 rfl rfl rfl ?_
          refine x_get (pc' := 19) (v := .ref (ad 0)) C 0 0 inBX7 rfl rfl (by decide) fl_X7_7 rfl rfl dX7_comesOf_16 rfl ?_
          refine x_iload_n (pc' := 20) C dX7_comesOf_19 rfl rfl rfl ?_
          refine x_iconst (v := 1) (pc' := 21) C dX7_comesOf_20 rfl (by decide) ?_
          refine x_RS (st := [.ref (ad 0)]) (st2 := [.int (f_X7_of x3_2 1), .ref (ad 0)]) (pc' := 24) C (c_X7_of (kl k) (kg k) x3_2 1) cw_X7_32 ok_X7_of (by decide) [] rfl rfl rfl (Nat.le_of_ble_eq_true rfl) (Nat.zero_le _) (Nat.zero_le _) rfl dX7_comesOf_21 rfl rfl ?_
          obtain ⟨hn5, hok⟩ := hok
          refine x_iald (pc' := 25) (f := S.2 0) (v := ((S.2 0) ((f_X7_of x3_2 1)).toNatClampNeg)) C 1 rfl hn5 rfl dX7_comesOf_24 rfl ?_
          refine x_istore_n (pc' := 26) (L' := [some (.ref h), none, some (.int a2), some (.int ((S.2 0) ((f_X7_of x3_2 1)).toNatClampNeg))]) C dX7_comesOf_25 rfl rfl (Nat.le_of_ble_eq_true rfl) rfl ?_
          refine x_goto (tgt := 2) C dX7_comesOf_26 (by decide) ?_
          exact ih2 ((S.2 0) ((f_X7_of x3_2 1)).toNatClampNeg) hRES hok
  refine x_forget (L' := [some (.ref h), none, some (.int a2), some (.int a1)]) [0, 2, 3] rfl rfl ?_
  exact loop2 25 a1 hRES hok

def k_X7_layWay_221 (S_221 : CS) : CS := S_221
def ok_X7_layWay_221 (S_221 : CS) : Prop := True
def l_X7_layWay_177 : Nat → CS → Nat → CS
  | 0, _, _ => dfCS
  | n177 + 1, S_177, i6_177 => (if (nI i6_177) < S_177.1 11 then (bind1 (f_X7_unlikeCells S_177 ((S_177.2 10) ((nI i6_177)).toNatClampNeg) ((S_177.2 10) ((nI (i6_177 + 1))).toNatClampNeg)) (fun z10 => (bind1 (setI S_177 12 (S_177.1 12 + z10)) (fun z11 => (l_X7_layWay_177 n177 z11 (i6_177 + 1)))))) else (k_X7_layWay_221 S_177))
def ol_X7_layWay_177 : Nat → CS → Nat → Prop
  | 0, _, _ => False
  | n177 + 1, S_177, i6_177 => (((nI i6_177) < S_177.1 11 → (vp_in (nI i6_177) 24 ∧ (vp_in (nI (i6_177 + 1)) 24 ∧ ((o_X7_unlikeCells S_177 ((S_177.2 10) ((nI i6_177)).toNatClampNeg) ((S_177.2 10) ((nI (i6_177 + 1))).toNatClampNeg)) ∧ (bind1 (f_X7_unlikeCells S_177 ((S_177.2 10) ((nI i6_177)).toNatClampNeg) ((S_177.2 10) ((nI (i6_177 + 1))).toNatClampNeg)) (fun z10 => (bind1 (setI S_177 12 (S_177.1 12 + z10)) (fun z11 => (ol_X7_layWay_177 n177 z11 (i6_177 + 1)))))))))) ∧ (¬ (nI i6_177) < S_177.1 11 → (ok_X7_layWay_221 S_177)))
def k_X7_layWay_158 (i4_112 : Nat) (S_158 : CS) : CS := (bind1 (setI S_158 11 (S_158.1 11 + (nI i4_112))) (fun z4 => (bind1 (setI z4 12 0) (fun z5 => (l_X7_layWay_177 25 z5 0)))))
def ok_X7_layWay_158 (i4_112 : Nat) (S_158 : CS) : Prop := (bind1 (setI S_158 11 (S_158.1 11 + (nI i4_112))) (fun z4 => (bind1 (setI z4 12 0) (fun z5 => (ol_X7_layWay_177 25 z5 0)))))
def l_X7_layWay_124 (S_71 : CS) (i4_112 : Nat) : Nat → CS → Int32 → Int32 → CS
  | 0, _, _, _ => dfCS
  | n124 + 1, S_124, x5_124, x6_124 => (if x6_124 = ((S_71.2 10) (S_71.1 11).toNatClampNeg) then (k_X7_layWay_158 i4_112 S_124) else (bind1 (setF S_124 10 (upd (S_124.2 10) (x5_124).toNatClampNeg x6_124)) (fun z14 => (l_X7_layWay_124 S_71 i4_112 n124 z14 (x5_124 + (-1)) ((z14.2 0) ((f_X7_of x6_124 1)).toNatClampNeg)))))
def ol_X7_layWay_124 (S_71 : CS) (i4_112 : Nat) : Nat → CS → Int32 → Int32 → Prop
  | 0, _, _, _ => False
  | n124 + 1, S_124, x5_124, x6_124 => ((x6_124 = ((S_71.2 10) (S_71.1 11).toNatClampNeg) → (ok_X7_layWay_158 i4_112 S_124)) ∧ (¬ (x6_124 = ((S_71.2 10) (S_71.1 11).toNatClampNeg)) → (vp_in x5_124 24 ∧ (bind1 (setF S_124 10 (upd (S_124.2 10) (x5_124).toNatClampNeg x6_124)) (fun z14 => (vp_in (f_X7_of x6_124 1) 318 ∧ (ol_X7_layWay_124 S_71 i4_112 n124 z14 (x5_124 + (-1)) ((z14.2 0) ((f_X7_of x6_124 1)).toNatClampNeg))))))))
def k_X7_layWay_112 (a2 : Int32) (S_71 : CS) (i4_112 : Nat) : CS := (l_X7_layWay_124 S_71 i4_112 25 S_71 (S_71.1 11 + (nI i4_112)) a2)
def ok_X7_layWay_112 (a2 : Int32) (S_71 : CS) (i4_112 : Nat) : Prop := (ol_X7_layWay_124 S_71 i4_112 25 S_71 (S_71.1 11 + (nI i4_112)) a2)
def l_X7_layWay_87 (a2 : Int32) (S_71 : CS) : Nat → Nat → Int32 → CS
  | 0, _, _ => dfCS
  | n87 + 1, i4_87, x5_87 => (if x5_87 = ((S_71.2 10) (S_71.1 11).toNatClampNeg) then (k_X7_layWay_112 a2 S_71 i4_87) else (l_X7_layWay_87 a2 S_71 n87 (i4_87 + 1) ((S_71.2 0) ((f_X7_of x5_87 1)).toNatClampNeg)))
def ol_X7_layWay_87 (a2 : Int32) (S_71 : CS) : Nat → Nat → Int32 → Prop
  | 0, _, _ => False
  | n87 + 1, i4_87, x5_87 => ((x5_87 = ((S_71.2 10) (S_71.1 11).toNatClampNeg) → (ok_X7_layWay_112 a2 S_71 i4_87)) ∧ (¬ (x5_87 = ((S_71.2 10) (S_71.1 11).toNatClampNeg)) → (vp_in (f_X7_of x5_87 1) 318 ∧ (ol_X7_layWay_87 a2 S_71 n87 (i4_87 + 1) ((S_71.2 0) ((f_X7_of x5_87 1)).toNatClampNeg)))))
def k_X7_layWay_71 (a2 : Int32) (S_71 : CS) : CS := (l_X7_layWay_87 a2 S_71 25 0 a2)
def ok_X7_layWay_71 (a2 : Int32) (S_71 : CS) : Prop := (vp_in (S_71.1 11) 24 ∧ (ol_X7_layWay_87 a2 S_71 25 0 a2))
def l_X7_layWay_12 (a2 : Int32) : Nat → CS → CS
  | 0, _ => dfCS
  | n12 + 1, S_12 => (if (f_X7_comesOf S_12 a2 ((S_12.2 10) (S_12.1 11).toNatClampNeg)) = true then (k_X7_layWay_71 a2 S_12) else (bind1 (setF S_12 10 (upd (S_12.2 10) ((S_12.1 11 + 1)).toNatClampNeg ((S_12.2 0) ((f_X7_of ((S_12.2 10) (S_12.1 11).toNatClampNeg) 1)).toNatClampNeg))) (fun z24 => (bind1 (setI z24 11 (z24.1 11 + 1)) (fun z25 => (l_X7_layWay_12 a2 n12 z25))))))
def ol_X7_layWay_12 (a2 : Int32) : Nat → CS → Prop
  | 0, _ => False
  | n12 + 1, S_12 => (vp_in (S_12.1 11) 24 ∧ ((o_X7_comesOf S_12 a2 ((S_12.2 10) (S_12.1 11).toNatClampNeg)) ∧ (((f_X7_comesOf S_12 a2 ((S_12.2 10) (S_12.1 11).toNatClampNeg)) = true → (ok_X7_layWay_71 a2 S_12)) ∧ (¬ (f_X7_comesOf S_12 a2 ((S_12.2 10) (S_12.1 11).toNatClampNeg)) = true → (vp_in (S_12.1 11) 24 ∧ (vp_in (f_X7_of ((S_12.2 10) (S_12.1 11).toNatClampNeg) 1) 318 ∧ (vp_in (S_12.1 11 + 1) 24 ∧ (bind1 (setF S_12 10 (upd (S_12.2 10) ((S_12.1 11 + 1)).toNatClampNeg ((S_12.2 0) ((f_X7_of ((S_12.2 10) (S_12.1 11).toNatClampNeg) 1)).toNatClampNeg))) (fun z24 => (bind1 (setI z24 11 (z24.1 11 + 1)) (fun z25 => (ol_X7_layWay_12 a2 n12 z25))))))))))))
def f_X7_layWay (S : CS) (a1 : Int32) (a2 : Int32) : CS := (bind1 (setF S 10 (upd (S.2 10) 0 a1)) (fun z1 => (bind1 (setI z1 11 0) (fun z2 => (l_X7_layWay_12 a2 25 z2)))))
def o_X7_layWay (S : CS) (a1 : Int32) (a2 : Int32) : Prop := (bind1 (setF S 10 (upd (S.2 10) 0 a1)) (fun z1 => (bind1 (setI z1 11 0) (fun z2 => (ol_X7_layWay_12 a2 25 z2)))))
set_option maxRecDepth 100000 in
set_option maxHeartbeats 8000000 in
theorem c_X7_layWay (l : Launch) (g : GT) (h : Nat) (ad : Nat → Nat) (S : CS) (a1 : Int32) (a2 : Int32) (hok : o_X7_layWay S a1 a2) : CW l yX7_layWay (.code yX7_layWay cX7_layWay 7 none) 3 g [.ref h, .int a1, .int a2] (wMo g h ad S) none (wMo g h ad (f_X7_layWay S a1 a2)) := by
  obtain ⟨RES, hRES⟩ : ∃ z, z = (f_X7_layWay S a1 a2) := ⟨_, rfl⟩
  rw [← hRES]
  unfold f_X7_layWay at hRES
  unfold o_X7_layWay at hok
  refine CWx.of (nL := 7) (ret := none) (own := RX7) (cc := cX7_layWay) rfl (by decide) rfl (List.forall_mem_cons.mpr ⟨rfl, (List.forall_mem_cons.mpr ⟨rfl, (List.forall_mem_cons.mpr ⟨rfl, (fun _ h => absurd h List.not_mem_nil)⟩)⟩)⟩) (Nat.le_of_ble_eq_true rfl) ?_
  intro k C B hin hkl hkg
  subst hkl; subst hkg
  refine x_loc2 (L' := [some (.ref h), some (.int a1), some (.int a2), none, none, none, none]) rfl ?_
  refine x_aload_n (pc' := 1) C dX7_layWay_0 rfl rfl rfl ?_
  refine x_get (pc' := 4) (v := .ref (ad 10)) C 0 10 inBX7 rfl rfl (by decide) fl_X7_29 rfl rfl dX7_layWay_1 rfl ?_
  refine x_iconst (v := 0) (pc' := 5) C dX7_layWay_4 rfl (by decide) ?_
  refine x_iload_n (pc' := 6) C dX7_layWay_5 rfl rfl rfl ?_
  obtain ⟨z1, ez1⟩ : ∃ z, z = (setF S 10 (upd (S.2 10) 0 a1)) := ⟨_, rfl⟩
  replace hRES := bd hRES z1 ez1
  replace hok := bdP hok z1 ez1
  refine x_iastN (pc' := 7) (f := S.2 10) (j := 0) (w' := wMo (kg k) h ad z1) C B 6 rfl (by decide) (by decide) dX7_layWay_6 rfl (by rw [ez1]; rfl) ?_
  refine x_aload_n (pc' := 8) C dX7_layWay_7 rfl rfl rfl ?_
  refine x_iconst (v := 0) (pc' := 9) C dX7_layWay_8 rfl (by decide) ?_
  obtain ⟨z2, ez2⟩ : ∃ z, z = (setI z1 11 0) := ⟨_, rfl⟩
  replace hRES := bd hRES z2 ez2
  replace hok := bdP hok z2 ez2
  refine x_put (pc' := 12) (w' := wMo (kg k) h ad z2) (ty := .int) C B 0 11 inBX7 tyX7 tyX7_ok nmX7 rfl rfl (by decide) fl_X7_51 rfl rfl rfl rfl rfl (Nat.le_of_ble_eq_true rfl) dX7_layWay_9 rfl (by rw [ez2]; rfl) ?_
  have cont71 : ∀ (S_71 : CS), RES = k_X7_layWay_71 a2 S_71 → ok_X7_layWay_71 a2 S_71 → X k 0 0 (wMo (kg k) h ad S_71) 71 [some (.ref h), none, some (.int a2), none, none, none, none] [] := by
    intro S_71 hRES hok
    unfold k_X7_layWay_71 at hRES
    unfold ok_X7_layWay_71 at hok
    refine x_aload_n (pc' := 72) C dX7_layWay_71 rfl rfl rfl ?_
    refine x_get (pc' := 75) (v := .ref (ad 10)) C 0 10 inBX7 rfl rfl (by decide) fl_X7_29 rfl rfl dX7_layWay_72 rfl ?_
    refine x_aload_n (pc' := 76) C dX7_layWay_75 rfl rfl rfl ?_
    refine x_get (pc' := 79) (v := .int (S_71.1 11)) C 0 11 inBX7 rfl rfl (by decide) fl_X7_51 rfl rfl dX7_layWay_76 rfl ?_
    obtain ⟨hn3, hok⟩ := hok
    refine x_iald (pc' := 80) (f := S_71.2 10) (v := ((S_71.2 10) (S_71.1 11).toNatClampNeg)) C 6 rfl hn3 rfl dX7_layWay_79 rfl ?_
    refine x_istore_n (pc' := 81) (L' := [some (.ref h), none, some (.int a2), some (.int ((S_71.2 10) (S_71.1 11).toNatClampNeg)), none, none, none]) C dX7_layWay_80 rfl rfl (Nat.le_of_ble_eq_true rfl) rfl ?_
    refine x_iconst (v := 0) (pc' := 82) C dX7_layWay_81 rfl (by decide) ?_
    refine x_istore (pc' := 84) (L' := [some (.ref h), none, some (.int a2), some (.int ((S_71.2 10) (S_71.1 11).toNatClampNeg)), some (.int 0), none, none]) C dX7_layWay_82 rfl (Nat.le_of_ble_eq_true rfl) rfl ?_
    refine x_iload_n (pc' := 85) C dX7_layWay_84 rfl rfl rfl ?_
    refine x_istore (pc' := 87) (L' := [some (.ref h), none, some (.int a2), some (.int ((S_71.2 10) (S_71.1 11).toNatClampNeg)), some (.int 0), some (.int a2), none]) C dX7_layWay_85 rfl (Nat.le_of_ble_eq_true rfl) rfl ?_
    have cont112 : ∀ (i4_112 : Nat), RES = k_X7_layWay_112 a2 S_71 i4_112 → ok_X7_layWay_112 a2 S_71 i4_112 → X k 0 0 (wMo (kg k) h ad S_71) 112 [some (.ref h), none, some (.int a2), some (.int ((S_71.2 10) (S_71.1 11).toNatClampNeg)), some (.int (nI i4_112)), none, none] [] := by
      intro i4_112 hRES hok
      unfold k_X7_layWay_112 at hRES
      unfold ok_X7_layWay_112 at hok
      refine x_aload_n (pc' := 113) C dX7_layWay_112 rfl rfl rfl ?_
      refine x_get (pc' := 116) (v := .int (S_71.1 11)) C 0 11 inBX7 rfl rfl (by decide) fl_X7_51 rfl rfl dX7_layWay_113 rfl ?_
      refine x_iload (pc' := 118) C dX7_layWay_116 rfl rfl ?_
      refine x_iadd (pc' := 119) (v := (S_71.1 11 + (nI i4_112))) C dX7_layWay_118 rfl rfl ?_
      refine x_istore (pc' := 121) (L' := [some (.ref h), none, some (.int a2), some (.int ((S_71.2 10) (S_71.1 11).toNatClampNeg)), some (.int (nI i4_112)), some (.int (S_71.1 11 + (nI i4_112))), none]) C dX7_layWay_119 rfl (Nat.le_of_ble_eq_true rfl) rfl ?_
      refine x_iload_n (pc' := 122) C dX7_layWay_121 rfl rfl rfl ?_
      refine x_istore (pc' := 124) (L' := [some (.ref h), none, some (.int a2), some (.int ((S_71.2 10) (S_71.1 11).toNatClampNeg)), some (.int (nI i4_112)), some (.int (S_71.1 11 + (nI i4_112))), some (.int a2)]) C dX7_layWay_122 rfl (Nat.le_of_ble_eq_true rfl) rfl ?_
      have cont158 : ∀ (S_158 : CS), RES = k_X7_layWay_158 i4_112 S_158 → ok_X7_layWay_158 i4_112 S_158 → X k 0 0 (wMo (kg k) h ad S_158) 158 [some (.ref h), none, none, none, some (.int (nI i4_112)), none, none] [] := by
        intro S_158 hRES hok
        unfold k_X7_layWay_158 at hRES
        unfold ok_X7_layWay_158 at hok
        refine x_aload_n (pc' := 159) C dX7_layWay_158 rfl rfl rfl ?_
        refine x_dup (pc' := 160) C dX7_layWay_159 rfl rfl ?_
        refine x_get (pc' := 163) (v := .int (S_158.1 11)) C 0 11 inBX7 rfl rfl (by decide) fl_X7_51 rfl rfl dX7_layWay_160 rfl ?_
        refine x_iload (pc' := 165) C dX7_layWay_163 rfl rfl ?_
        refine x_iadd (pc' := 166) (v := (S_158.1 11 + (nI i4_112))) C dX7_layWay_165 rfl rfl ?_
        obtain ⟨z4, ez4⟩ : ∃ z, z = (setI S_158 11 (S_158.1 11 + (nI i4_112))) := ⟨_, rfl⟩
        replace hRES := bd hRES z4 ez4
        replace hok := bdP hok z4 ez4
        refine x_put (pc' := 169) (w' := wMo (kg k) h ad z4) (ty := .int) C B 0 11 inBX7 tyX7 tyX7_ok nmX7 rfl rfl (by decide) fl_X7_51 rfl rfl rfl rfl rfl (Nat.le_of_ble_eq_true rfl) dX7_layWay_166 rfl (by rw [ez4]; rfl) ?_
        refine x_aload_n (pc' := 170) C dX7_layWay_169 rfl rfl rfl ?_
        refine x_iconst (v := 0) (pc' := 171) C dX7_layWay_170 rfl (by decide) ?_
        obtain ⟨z5, ez5⟩ : ∃ z, z = (setI z4 12 0) := ⟨_, rfl⟩
        replace hRES := bd hRES z5 ez5
        replace hok := bdP hok z5 ez5
        refine x_put (pc' := 174) (w' := wMo (kg k) h ad z5) (ty := .int) C B 0 12 inBX7 tyX7 tyX7_ok nmX7 rfl rfl (by decide) fl_X7_58 rfl rfl rfl rfl rfl (Nat.le_of_ble_eq_true rfl) dX7_layWay_171 rfl (by rw [ez5]; rfl) ?_
        refine x_iconst (v := 0) (pc' := 175) C dX7_layWay_174 rfl (by decide) ?_
        refine x_istore (pc' := 177) (L' := [some (.ref h), none, none, none, some (.int (nI i4_112)), none, some (.int 0)]) C dX7_layWay_175 rfl (Nat.le_of_ble_eq_true rfl) rfl ?_
        have cont221 : ∀ (S_221 : CS), RES = k_X7_layWay_221 S_221 → ok_X7_layWay_221 S_221 → X k 0 0 (wMo (kg k) h ad S_221) 221 [none, none, none, none, none, none, none] [] := by
          intro S_221 hRES hok
          unfold k_X7_layWay_221 at hRES
          unfold ok_X7_layWay_221 at hok
          exact x_vret C (Nat.zero_le _) (Nat.zero_le _) dX7_layWay_221 ⟨rfl, by rw [hRES]⟩
        have loop177 : ∀ (n177 : Nat) (S_177 : CS) (i6_177 : Nat), RES = l_X7_layWay_177 n177 S_177 i6_177 → ol_X7_layWay_177 n177 S_177 i6_177 → X k 0 0 (wMo (kg k) h ad S_177) 177 [some (.ref h), none, none, none, none, none, some (.int (nI i6_177))] [] := by
          intro n177
          induction n177 with
          | zero =>
            intro S_177 i6_177 hRES hok
            exact (show False from hok).elim
          | succ n177 ih177 =>
            intro S_177 i6_177 hRES hok
            rw [l_X7_layWay_177] at hRES
            rw [ol_X7_layWay_177] at hok
            refine x_iload (pc' := 179) C dX7_layWay_177 rfl rfl ?_
            refine x_aload_n (pc' := 180) C dX7_layWay_179 rfl rfl rfl ?_
            refine x_get (pc' := 183) (v := .int (S_177.1 11)) C 0 11 inBX7 rfl rfl (by decide) fl_X7_51 rfl rfl dX7_layWay_180 rfl ?_
            refine x_icmp_ge (tgt := 221) (pc' := 186) C dX7_layWay_183 (by decide) rfl (fun c6 => ?_) (fun c6 => ?_)
            · rw [if_neg c6] at hRES
              replace hok := hok.2 c6
              refine x_forget (L' := [none, none, none, none, none, none, none]) [] rfl rfl ?_
              exact cont221 S_177 hRES hok
            · rw [if_pos c6] at hRES
              replace hok := hok.1 c6
              refine x_aload_n (pc' := 187) C dX7_layWay_186 rfl rfl rfl ?_
              refine x_dup (pc' := 188) C dX7_layWay_187 rfl rfl ?_
              refine x_get (pc' := 191) (v := .int (S_177.1 12)) C 0 12 inBX7 rfl rfl (by decide) fl_X7_58 rfl rfl dX7_layWay_188 rfl ?_
              refine x_aload_n (pc' := 192) C dX7_layWay_191 rfl rfl rfl ?_
              refine x_aload_n (pc' := 193) C dX7_layWay_192 rfl rfl rfl ?_
              refine x_get (pc' := 196) (v := .ref (ad 10)) C 0 10 inBX7 rfl rfl (by decide) fl_X7_29 rfl rfl dX7_layWay_193 rfl ?_
              refine x_iload (pc' := 198) C dX7_layWay_196 rfl rfl ?_
              obtain ⟨hn7, hok⟩ := hok
              refine x_iald (pc' := 199) (f := S_177.2 10) (v := ((S_177.2 10) ((nI i6_177)).toNatClampNeg)) C 6 rfl hn7 rfl dX7_layWay_198 rfl ?_
              refine x_aload_n (pc' := 200) C dX7_layWay_199 rfl rfl rfl ?_
              refine x_get (pc' := 203) (v := .ref (ad 10)) C 0 10 inBX7 rfl rfl (by decide) fl_X7_29 rfl rfl dX7_layWay_200 rfl ?_
              refine x_iload (pc' := 205) C dX7_layWay_203 rfl rfl ?_
              refine x_iconst (v := 1) (pc' := 206) C dX7_layWay_205 rfl (by decide) ?_
              refine x_iadd (pc' := 207) (v := (nI (i6_177 + 1))) C dX7_layWay_206 rfl (nI_add i6_177 1) ?_
              obtain ⟨hn8, hok⟩ := hok
              refine x_iald (pc' := 208) (f := S_177.2 10) (v := ((S_177.2 10) ((nI (i6_177 + 1))).toNatClampNeg)) C 6 rfl hn8 rfl dX7_layWay_207 rfl ?_
              obtain ⟨hn9, hok⟩ := hok
              obtain ⟨z10, ez10⟩ : ∃ z, z = (f_X7_unlikeCells S_177 ((S_177.2 10) ((nI i6_177)).toNatClampNeg) ((S_177.2 10) ((nI (i6_177 + 1))).toNatClampNeg)) := ⟨_, rfl⟩
              replace hRES := bd hRES z10 ez10
              replace hok := bdP hok z10 ez10
              have hc := c_X7_unlikeCells (kl k) (kg k) h ad S_177 ((S_177.2 10) ((nI i6_177)).toNatClampNeg) ((S_177.2 10) ((nI (i6_177 + 1))).toNatClampNeg) hn9
              rw [← ez10] at hc
              refine x_RV (st := [.int (S_177.1 12), .ref h]) (st2 := [.int z10, .int (S_177.1 12), .ref h]) (pc' := 211) C hc cw_X7_61 ok_X7_unlikeCells rfl (by decide) 0 rfl rfl [0, 1, 2, 3, 4, 5, 6] rfl rfl rfl (Nat.le_of_ble_eq_true rfl) (Nat.zero_le _) (Nat.zero_le _) rfl dX7_layWay_208 rfl rfl ?_
              refine x_iadd (pc' := 212) (v := (S_177.1 12 + z10)) C dX7_layWay_211 rfl rfl ?_
              obtain ⟨z11, ez11⟩ : ∃ z, z = (setI S_177 12 (S_177.1 12 + z10)) := ⟨_, rfl⟩
              replace hRES := bd hRES z11 ez11
              replace hok := bdP hok z11 ez11
              refine x_put (pc' := 215) (w' := wMo (kg k) h ad z11) (ty := .int) C B 0 12 inBX7 tyX7 tyX7_ok nmX7 rfl rfl (by decide) fl_X7_58 rfl rfl rfl rfl rfl (Nat.le_of_ble_eq_true rfl) dX7_layWay_212 rfl (by rw [ez11]; rfl) ?_
              refine x_iinc (pc' := 218) (v := (nI (i6_177 + 1))) (L' := [some (.ref h), none, none, none, none, none, some (.int (nI (i6_177 + 1)))]) C dX7_layWay_215 rfl rfl (nI_add i6_177 1) (Nat.le_of_ble_eq_true rfl) rfl ?_
              refine x_goto (tgt := 177) C dX7_layWay_218 (by decide) ?_
              exact ih177 z11 (i6_177 + 1) hRES hok
        refine x_forget (L' := [some (.ref h), none, none, none, none, none, some (.int 0)]) [0, 2] rfl rfl ?_
        exact loop177 25 z5 0 hRES hok
      have loop124 : ∀ (n124 : Nat) (S_124 : CS) (x5_124 : Int32) (x6_124 : Int32), RES = l_X7_layWay_124 S_71 i4_112 n124 S_124 x5_124 x6_124 → ol_X7_layWay_124 S_71 i4_112 n124 S_124 x5_124 x6_124 → X k 0 0 (wMo (kg k) h ad S_124) 124 [some (.ref h), none, none, some (.int ((S_71.2 10) (S_71.1 11).toNatClampNeg)), some (.int (nI i4_112)), some (.int x5_124), some (.int x6_124)] [] := by
        intro n124
        induction n124 with
        | zero =>
          intro S_124 x5_124 x6_124 hRES hok
          exact (show False from hok).elim
        | succ n124 ih124 =>
          intro S_124 x5_124 x6_124 hRES hok
          rw [l_X7_layWay_124] at hRES
          rw [ol_X7_layWay_124] at hok
          refine x_iload (pc' := 126) C dX7_layWay_124 rfl rfl ?_
          refine x_iload_n (pc' := 127) C dX7_layWay_126 rfl rfl rfl ?_
          refine x_icmp_eq (tgt := 158) (pc' := 130) C dX7_layWay_127 (by decide) rfl (fun c12 => ?_) (fun c12 => ?_)
          · rw [if_pos c12] at hRES
            replace hok := hok.1 c12
            refine x_forget (L' := [some (.ref h), none, none, none, some (.int (nI i4_112)), none, none]) [0, 2] rfl rfl ?_
            exact cont158 S_124 hRES hok
          · rw [if_neg c12] at hRES
            replace hok := hok.2 c12
            refine x_aload_n (pc' := 131) C dX7_layWay_130 rfl rfl rfl ?_
            refine x_get (pc' := 134) (v := .ref (ad 10)) C 0 10 inBX7 rfl rfl (by decide) fl_X7_29 rfl rfl dX7_layWay_131 rfl ?_
            refine x_iload (pc' := 136) C dX7_layWay_134 rfl rfl ?_
            refine x_iload (pc' := 138) C dX7_layWay_136 rfl rfl ?_
            obtain ⟨hn13, hok⟩ := hok
            obtain ⟨z14, ez14⟩ : ∃ z, z = (setF S_124 10 (upd (S_124.2 10) (x5_124).toNatClampNeg x6_124)) := ⟨_, rfl⟩
            replace hRES := bd hRES z14 ez14
            replace hok := bdP hok z14 ez14
            refine x_iast (pc' := 139) (f := S_124.2 10) (w' := wMo (kg k) h ad z14) C B 6 rfl hn13 dX7_layWay_138 rfl (by rw [ez14]; rfl) ?_
            refine x_iinc (pc' := 142) (v := (x5_124 + (-1))) (L' := [some (.ref h), none, none, some (.int ((S_71.2 10) (S_71.1 11).toNatClampNeg)), some (.int (nI i4_112)), some (.int (x5_124 + (-1))), some (.int x6_124)]) C dX7_layWay_139 rfl rfl rfl (Nat.le_of_ble_eq_true rfl) rfl ?_
            refine x_aload_n (pc' := 143) C dX7_layWay_142 rfl rfl rfl ?_
            refine x_get (pc' := 146) (v := .ref (ad 0)) C 0 0 inBX7 rfl rfl (by decide) fl_X7_7 rfl rfl dX7_layWay_143 rfl ?_
            refine x_iload (pc' := 148) C dX7_layWay_146 rfl rfl ?_
            refine x_iconst (v := 1) (pc' := 149) C dX7_layWay_148 rfl (by decide) ?_
            refine x_RS (st := [.ref (ad 0)]) (st2 := [.int (f_X7_of x6_124 1), .ref (ad 0)]) (pc' := 152) C (c_X7_of (kl k) (kg k) x6_124 1) cw_X7_32 ok_X7_of (by decide) [] rfl rfl rfl (Nat.le_of_ble_eq_true rfl) (Nat.zero_le _) (Nat.zero_le _) rfl dX7_layWay_149 rfl rfl ?_
            obtain ⟨hn15, hok⟩ := hok
            refine x_iald (pc' := 153) (f := z14.2 0) (v := ((z14.2 0) ((f_X7_of x6_124 1)).toNatClampNeg)) C 1 rfl hn15 rfl dX7_layWay_152 rfl ?_
            refine x_istore (pc' := 155) (L' := [some (.ref h), none, none, some (.int ((S_71.2 10) (S_71.1 11).toNatClampNeg)), some (.int (nI i4_112)), some (.int (x5_124 + (-1))), some (.int ((z14.2 0) ((f_X7_of x6_124 1)).toNatClampNeg))]) C dX7_layWay_153 rfl (Nat.le_of_ble_eq_true rfl) rfl ?_
            refine x_goto (tgt := 124) C dX7_layWay_155 (by decide) ?_
            exact ih124 z14 (x5_124 + (-1)) ((z14.2 0) ((f_X7_of x6_124 1)).toNatClampNeg) hRES hok
      refine x_forget (L' := [some (.ref h), none, none, some (.int ((S_71.2 10) (S_71.1 11).toNatClampNeg)), some (.int (nI i4_112)), some (.int (S_71.1 11 + (nI i4_112))), some (.int a2)]) [0, 2, 3, 4, 5] rfl rfl ?_
      exact loop124 25 S_71 (S_71.1 11 + (nI i4_112)) a2 hRES hok
    have loop87 : ∀ (n87 : Nat) (i4_87 : Nat) (x5_87 : Int32), RES = l_X7_layWay_87 a2 S_71 n87 i4_87 x5_87 → ol_X7_layWay_87 a2 S_71 n87 i4_87 x5_87 → X k 0 0 (wMo (kg k) h ad S_71) 87 [some (.ref h), none, some (.int a2), some (.int ((S_71.2 10) (S_71.1 11).toNatClampNeg)), some (.int (nI i4_87)), some (.int x5_87), none] [] := by
      intro n87
      induction n87 with
      | zero =>
        intro i4_87 x5_87 hRES hok
        exact (show False from hok).elim
      | succ n87 ih87 =>
        intro i4_87 x5_87 hRES hok
        rw [l_X7_layWay_87] at hRES
        rw [ol_X7_layWay_87] at hok
        refine x_iload (pc' := 89) C dX7_layWay_87 rfl rfl ?_
        refine x_iload_n (pc' := 90) C dX7_layWay_89 rfl rfl rfl ?_
        refine x_icmp_eq (tgt := 112) (pc' := 93) C dX7_layWay_90 (by decide) rfl (fun c16 => ?_) (fun c16 => ?_)
        · rw [if_pos c16] at hRES
          replace hok := hok.1 c16
          refine x_forget (L' := [some (.ref h), none, some (.int a2), some (.int ((S_71.2 10) (S_71.1 11).toNatClampNeg)), some (.int (nI i4_87)), none, none]) [0, 1, 2, 3] rfl rfl ?_
          exact cont112 i4_87 hRES hok
        · rw [if_neg c16] at hRES
          replace hok := hok.2 c16
          refine x_iinc (pc' := 96) (v := (nI (i4_87 + 1))) (L' := [some (.ref h), none, some (.int a2), some (.int ((S_71.2 10) (S_71.1 11).toNatClampNeg)), some (.int (nI (i4_87 + 1))), some (.int x5_87), none]) C dX7_layWay_93 rfl rfl (nI_add i4_87 1) (Nat.le_of_ble_eq_true rfl) rfl ?_
          refine x_aload_n (pc' := 97) C dX7_layWay_96 rfl rfl rfl ?_
          refine x_get (pc' := 100) (v := .ref (ad 0)) C 0 0 inBX7 rfl rfl (by decide) fl_X7_7 rfl rfl dX7_layWay_97 rfl ?_
          refine x_iload (pc' := 102) C dX7_layWay_100 rfl rfl ?_
          refine x_iconst (v := 1) (pc' := 103) C dX7_layWay_102 rfl (by decide) ?_
          refine x_RS (st := [.ref (ad 0)]) (st2 := [.int (f_X7_of x5_87 1), .ref (ad 0)]) (pc' := 106) C (c_X7_of (kl k) (kg k) x5_87 1) cw_X7_32 ok_X7_of (by decide) [] rfl rfl rfl (Nat.le_of_ble_eq_true rfl) (Nat.zero_le _) (Nat.zero_le _) rfl dX7_layWay_103 rfl rfl ?_
          obtain ⟨hn17, hok⟩ := hok
          refine x_iald (pc' := 107) (f := S_71.2 0) (v := ((S_71.2 0) ((f_X7_of x5_87 1)).toNatClampNeg)) C 1 rfl hn17 rfl dX7_layWay_106 rfl ?_
          refine x_istore (pc' := 109) (L' := [some (.ref h), none, some (.int a2), some (.int ((S_71.2 10) (S_71.1 11).toNatClampNeg)), some (.int (nI (i4_87 + 1))), some (.int ((S_71.2 0) ((f_X7_of x5_87 1)).toNatClampNeg)), none]) C dX7_layWay_107 rfl (Nat.le_of_ble_eq_true rfl) rfl ?_
          refine x_goto (tgt := 87) C dX7_layWay_109 (by decide) ?_
          exact ih87 (i4_87 + 1) ((S_71.2 0) ((f_X7_of x5_87 1)).toNatClampNeg) hRES hok
    exact loop87 25 0 a2 hRES hok
  have loop12 : ∀ (n12 : Nat) (S_12 : CS), RES = l_X7_layWay_12 a2 n12 S_12 → ol_X7_layWay_12 a2 n12 S_12 → X k 0 0 (wMo (kg k) h ad S_12) 12 [some (.ref h), none, some (.int a2), none, none, none, none] [] := by
    intro n12
    induction n12 with
    | zero =>
      intro S_12 hRES hok
      exact (show False from hok).elim
    | succ n12 ih12 =>
      intro S_12 hRES hok
      rw [l_X7_layWay_12] at hRES
      rw [ol_X7_layWay_12] at hok
      refine x_aload_n (pc' := 13) C dX7_layWay_12 rfl rfl rfl ?_
      refine x_iload_n (pc' := 14) C dX7_layWay_13 rfl rfl rfl ?_
      refine x_aload_n (pc' := 15) C dX7_layWay_14 rfl rfl rfl ?_
      refine x_get (pc' := 18) (v := .ref (ad 10)) C 0 10 inBX7 rfl rfl (by decide) fl_X7_29 rfl rfl dX7_layWay_15 rfl ?_
      refine x_aload_n (pc' := 19) C dX7_layWay_18 rfl rfl rfl ?_
      refine x_get (pc' := 22) (v := .int (S_12.1 11)) C 0 11 inBX7 rfl rfl (by decide) fl_X7_51 rfl rfl dX7_layWay_19 rfl ?_
      obtain ⟨hn18, hok⟩ := hok
      refine x_iald (pc' := 23) (f := S_12.2 10) (v := ((S_12.2 10) (S_12.1 11).toNatClampNeg)) C 6 rfl hn18 rfl dX7_layWay_22 rfl ?_
      obtain ⟨hn19, hok⟩ := hok
      refine x_RV (st := []) (st2 := [.int (bI (f_X7_comesOf S_12 a2 ((S_12.2 10) (S_12.1 11).toNatClampNeg)))]) (pc' := 26) C (c_X7_comesOf (kl k) (kg k) h ad S_12 a2 ((S_12.2 10) (S_12.1 11).toNatClampNeg) hn19) cw_X7_54 ok_X7_comesOf rfl (by decide) 0 rfl rfl [0, 1, 2, 3, 4, 5, 6] rfl rfl rfl (Nat.le_of_ble_eq_true rfl) (Nat.zero_le _) (Nat.zero_le _) rfl dX7_layWay_23 rfl rfl ?_
      refine x_ifB_ne (tgt := 71) (pc' := 29) C dX7_layWay_26 (by decide) rfl (fun c20 => ?_) (fun c20 => ?_)
      · rw [if_pos c20] at hRES
        replace hok := hok.1 c20
        exact cont71 S_12 hRES hok
      · rw [if_neg c20] at hRES
        replace hok := hok.2 c20
        refine x_aload_n (pc' := 30) C dX7_layWay_29 rfl rfl rfl ?_
        refine x_get (pc' := 33) (v := .ref (ad 10)) C 0 10 inBX7 rfl rfl (by decide) fl_X7_29 rfl rfl dX7_layWay_30 rfl ?_
        refine x_aload_n (pc' := 34) C dX7_layWay_33 rfl rfl rfl ?_
        refine x_get (pc' := 37) (v := .int (S_12.1 11)) C 0 11 inBX7 rfl rfl (by decide) fl_X7_51 rfl rfl dX7_layWay_34 rfl ?_
        refine x_iconst (v := 1) (pc' := 38) C dX7_layWay_37 rfl (by decide) ?_
        refine x_iadd (pc' := 39) (v := (S_12.1 11 + 1)) C dX7_layWay_38 rfl rfl ?_
        refine x_aload_n (pc' := 40) C dX7_layWay_39 rfl rfl rfl ?_
        refine x_get (pc' := 43) (v := .ref (ad 0)) C 0 0 inBX7 rfl rfl (by decide) fl_X7_7 rfl rfl dX7_layWay_40 rfl ?_
        refine x_aload_n (pc' := 44) C dX7_layWay_43 rfl rfl rfl ?_
        refine x_get (pc' := 47) (v := .ref (ad 10)) C 0 10 inBX7 rfl rfl (by decide) fl_X7_29 rfl rfl dX7_layWay_44 rfl ?_
        refine x_aload_n (pc' := 48) C dX7_layWay_47 rfl rfl rfl ?_
        refine x_get (pc' := 51) (v := .int (S_12.1 11)) C 0 11 inBX7 rfl rfl (by decide) fl_X7_51 rfl rfl dX7_layWay_48 rfl ?_
        obtain ⟨hn21, hok⟩ := hok
        refine x_iald (pc' := 52) (f := S_12.2 10) (v := ((S_12.2 10) (S_12.1 11).toNatClampNeg)) C 6 rfl hn21 rfl dX7_layWay_51 rfl ?_
        refine x_iconst (v := 1) (pc' := 53) C dX7_layWay_52 rfl (by decide) ?_
        refine x_RS (st := [.ref (ad 0), .int (S_12.1 11 + 1), .ref (ad 10)]) (st2 := [.int (f_X7_of ((S_12.2 10) (S_12.1 11).toNatClampNeg) 1), .ref (ad 0), .int (S_12.1 11 + 1), .ref (ad 10)]) (pc' := 56) C (c_X7_of (kl k) (kg k) ((S_12.2 10) (S_12.1 11).toNatClampNeg) 1) cw_X7_32 ok_X7_of (by decide) [] rfl rfl rfl (Nat.le_of_ble_eq_true rfl) (Nat.zero_le _) (Nat.zero_le _) rfl dX7_layWay_53 rfl rfl ?_
        obtain ⟨hn22, hok⟩ := hok
        refine x_iald (pc' := 57) (f := S_12.2 0) (v := ((S_12.2 0) ((f_X7_of ((S_12.2 10) (S_12.1 11).toNatClampNeg) 1)).toNatClampNeg)) C 1 rfl hn22 rfl dX7_layWay_56 rfl ?_
        obtain ⟨hn23, hok⟩ := hok
        obtain ⟨z24, ez24⟩ : ∃ z, z = (setF S_12 10 (upd (S_12.2 10) ((S_12.1 11 + 1)).toNatClampNeg ((S_12.2 0) ((f_X7_of ((S_12.2 10) (S_12.1 11).toNatClampNeg) 1)).toNatClampNeg))) := ⟨_, rfl⟩
        replace hRES := bd hRES z24 ez24
        replace hok := bdP hok z24 ez24
        refine x_iast (pc' := 58) (f := S_12.2 10) (w' := wMo (kg k) h ad z24) C B 6 rfl hn23 dX7_layWay_57 rfl (by rw [ez24]; rfl) ?_
        refine x_aload_n (pc' := 59) C dX7_layWay_58 rfl rfl rfl ?_
        refine x_dup (pc' := 60) C dX7_layWay_59 rfl rfl ?_
        refine x_get (pc' := 63) (v := .int (z24.1 11)) C 0 11 inBX7 rfl rfl (by decide) fl_X7_51 rfl rfl dX7_layWay_60 rfl ?_
        refine x_iconst (v := 1) (pc' := 64) C dX7_layWay_63 rfl (by decide) ?_
        refine x_iadd (pc' := 65) (v := (z24.1 11 + 1)) C dX7_layWay_64 rfl rfl ?_
        obtain ⟨z25, ez25⟩ : ∃ z, z = (setI z24 11 (z24.1 11 + 1)) := ⟨_, rfl⟩
        replace hRES := bd hRES z25 ez25
        replace hok := bdP hok z25 ez25
        refine x_put (pc' := 68) (w' := wMo (kg k) h ad z25) (ty := .int) C B 0 11 inBX7 tyX7 tyX7_ok nmX7 rfl rfl (by decide) fl_X7_51 rfl rfl rfl rfl rfl (Nat.le_of_ble_eq_true rfl) dX7_layWay_65 rfl (by rw [ez25]; rfl) ?_
        refine x_goto (tgt := 12) C dX7_layWay_68 (by decide) ?_
        exact ih12 z25 hRES hok
  refine x_forget (L' := [some (.ref h), none, some (.int a2), none, none, none, none]) [0, 2] rfl rfl ?_
  exact loop12 25 z2 hRES hok

def f_X7_cellsBetween (S : CS) (a1 : Int32) (a2 : Int32) : Int32 × CS := (bind1 (f_X7_layWay S a1 a2) (fun z2 => (z2.1 12, z2)))
def o_X7_cellsBetween (S : CS) (a1 : Int32) (a2 : Int32) : Prop := ((o_X7_layWay S a1 a2) ∧ (bind1 (f_X7_layWay S a1 a2) (fun z2 => True)))
set_option maxRecDepth 100000 in
set_option maxHeartbeats 8000000 in
theorem c_X7_cellsBetween (l : Launch) (g : GT) (h : Nat) (ad : Nat → Nat) (S : CS) (a1 : Int32) (a2 : Int32) (hok : o_X7_cellsBetween S a1 a2) : CW l yX7_cellsBetween (.code yX7_cellsBetween cX7_cellsBetween 3 (some .int)) 4 g [.ref h, .int a1, .int a2] (wMo g h ad S) (some (.int (f_X7_cellsBetween S a1 a2).1)) (wMo g h ad (f_X7_cellsBetween S a1 a2).2) := by
  obtain ⟨RES, hRES⟩ : ∃ z, z = (f_X7_cellsBetween S a1 a2) := ⟨_, rfl⟩
  rw [← hRES]
  unfold f_X7_cellsBetween at hRES
  unfold o_X7_cellsBetween at hok
  refine CWx.of (nL := 3) (ret := (some .int)) (own := RX7) (cc := cX7_cellsBetween) rfl (by decide) rfl (List.forall_mem_cons.mpr ⟨rfl, (List.forall_mem_cons.mpr ⟨rfl, (List.forall_mem_cons.mpr ⟨rfl, (fun _ h => absurd h List.not_mem_nil)⟩)⟩)⟩) (Nat.le_of_ble_eq_true rfl) ?_
  intro k C B hin hkl hkg
  subst hkl; subst hkg
  refine x_loc2 (L' := [some (.ref h), some (.int a1), some (.int a2)]) rfl ?_
  refine x_aload_n (pc' := 1) C dX7_cellsBetween_0 rfl rfl rfl ?_
  refine x_iload_n (pc' := 2) C dX7_cellsBetween_1 rfl rfl rfl ?_
  refine x_iload_n (pc' := 3) C dX7_cellsBetween_2 rfl rfl rfl ?_
  obtain ⟨hn1, hok⟩ := hok
  obtain ⟨z2, ez2⟩ : ∃ z, z = (f_X7_layWay S a1 a2) := ⟨_, rfl⟩
  replace hRES := bd hRES z2 ez2
  replace hok := bdP hok z2 ez2
  have hc := c_X7_layWay (kl k) (kg k) h ad S a1 a2 hn1
  rw [← ez2] at hc
  refine x_WV (st := []) (st2 := []) (pc' := 6) C B hc cw_X7_64 ok_X7_layWay rfl (by decide) 0 rfl rfl [0, 1, 2, 3, 4, 5, 6] [] [0, 1, 2, 3, 4, 5, 6] (wMo (kg k) h ad z2) rfl rfl rfl rfl (by decide) rfl rfl rfl (Nat.le_of_ble_eq_true rfl) (Nat.zero_le _) (Nat.zero_le _) rfl dX7_cellsBetween_3 rfl rfl ?_
  refine x_aload_n (pc' := 7) C dX7_cellsBetween_6 rfl rfl rfl ?_
  refine x_get (pc' := 10) (v := .int (z2.1 12)) C 0 12 inBX7 rfl rfl (by decide) fl_X7_58 rfl rfl dX7_cellsBetween_7 rfl ?_
  exact x_iret C (Nat.zero_le _) (Nat.zero_le _) dX7_cellsBetween_10 ⟨by rw [hRES], by rw [hRES]⟩

def k_X7_versions_114 (x2_114 : Int32) : Int32 := x2_114
def ok_X7_versions_114 (x2_114 : Int32) : Prop := True
def l_X7_versions_4 (S : CS) (a1 : Int32) : Nat → Int32 → Nat → Int32
  | 0, _, _ => 0
  | n4 + 1, x2_4, i3_4 => (if i3_4 < 24 then (if a1 = 0 then (if ((S.2 0) ((f_X7_of (nI i3_4) 0)).toNatClampNeg) = 1 then (l_X7_versions_4 S a1 n4 (x2_4 + 1) (i3_4 + 1)) else (l_X7_versions_4 S a1 n4 (x2_4 + 0) (i3_4 + 1))) else (if a1 = 1 then (if ((S.2 0) ((f_X7_of (nI i3_4) 3)).toNatClampNeg) = 1 then (if ((S.2 0) ((f_X7_of (nI i3_4) 0)).toNatClampNeg) = 1 then (l_X7_versions_4 S a1 n4 (x2_4 + 1) (i3_4 + 1)) else (l_X7_versions_4 S a1 n4 (x2_4 + 0) (i3_4 + 1))) else (if ((S.2 0) ((f_X7_of (nI i3_4) 0)).toNatClampNeg) = 1 then (l_X7_versions_4 S a1 n4 (x2_4 + 0) (i3_4 + 1)) else (l_X7_versions_4 S a1 n4 (x2_4 + 0) (i3_4 + 1)))) else (if a1 = 5 then (if ((S.2 0) ((f_X7_of (nI i3_4) 4)).toNatClampNeg) = 0 then (if ((S.2 0) ((f_X7_of (nI i3_4) 0)).toNatClampNeg) = 1 then (l_X7_versions_4 S a1 n4 (x2_4 + 1) (i3_4 + 1)) else (l_X7_versions_4 S a1 n4 (x2_4 + 0) (i3_4 + 1))) else (if ((S.2 0) ((f_X7_of (nI i3_4) 0)).toNatClampNeg) = 1 then (l_X7_versions_4 S a1 n4 (x2_4 + 0) (i3_4 + 1)) else (l_X7_versions_4 S a1 n4 (x2_4 + 0) (i3_4 + 1)))) else (if 0 < i3_4 then (if ((S.2 0) ((f_X7_of (nI i3_4) 2)).toNatClampNeg) = 0 then (if ((S.2 0) ((f_X7_of (nI i3_4) 0)).toNatClampNeg) = 1 then (l_X7_versions_4 S a1 n4 (x2_4 + 1) (i3_4 + 1)) else (l_X7_versions_4 S a1 n4 (x2_4 + 0) (i3_4 + 1))) else (if ((S.2 0) ((f_X7_of (nI i3_4) 0)).toNatClampNeg) = 1 then (l_X7_versions_4 S a1 n4 (x2_4 + 0) (i3_4 + 1)) else (l_X7_versions_4 S a1 n4 (x2_4 + 0) (i3_4 + 1)))) else (if ((S.2 0) ((f_X7_of (nI i3_4) 0)).toNatClampNeg) = 1 then (l_X7_versions_4 S a1 n4 (x2_4 + 0) (i3_4 + 1)) else (l_X7_versions_4 S a1 n4 (x2_4 + 0) (i3_4 + 1))))))) else (k_X7_versions_114 x2_4))
def ol_X7_versions_4 (S : CS) (a1 : Int32) : Nat → Int32 → Nat → Prop
  | 0, _, _ => True
  | n4 + 1, x2_4, i3_4 => ((i3_4 < 24 → ((a1 = 0 → (vp_in (f_X7_of (nI i3_4) 0) 318 ∧ ((((S.2 0) ((f_X7_of (nI i3_4) 0)).toNatClampNeg) = 1 → (ol_X7_versions_4 S a1 n4 (x2_4 + 1) (i3_4 + 1))) ∧ (¬ ((S.2 0) ((f_X7_of (nI i3_4) 0)).toNatClampNeg) = 1 → (ol_X7_versions_4 S a1 n4 (x2_4 + 0) (i3_4 + 1)))))) ∧ (¬ (a1 = 0) → ((a1 = 1 → (vp_in (f_X7_of (nI i3_4) 3) 318 ∧ ((((S.2 0) ((f_X7_of (nI i3_4) 3)).toNatClampNeg) = 1 → (vp_in (f_X7_of (nI i3_4) 0) 318 ∧ ((((S.2 0) ((f_X7_of (nI i3_4) 0)).toNatClampNeg) = 1 → (ol_X7_versions_4 S a1 n4 (x2_4 + 1) (i3_4 + 1))) ∧ (¬ ((S.2 0) ((f_X7_of (nI i3_4) 0)).toNatClampNeg) = 1 → (ol_X7_versions_4 S a1 n4 (x2_4 + 0) (i3_4 + 1)))))) ∧ (¬ ((S.2 0) ((f_X7_of (nI i3_4) 3)).toNatClampNeg) = 1 → (vp_in (f_X7_of (nI i3_4) 0) 318 ∧ ((((S.2 0) ((f_X7_of (nI i3_4) 0)).toNatClampNeg) = 1 → (ol_X7_versions_4 S a1 n4 (x2_4 + 0) (i3_4 + 1))) ∧ (¬ ((S.2 0) ((f_X7_of (nI i3_4) 0)).toNatClampNeg) = 1 → (ol_X7_versions_4 S a1 n4 (x2_4 + 0) (i3_4 + 1))))))))) ∧ (¬ (a1 = 1) → ((a1 = 5 → (vp_in (f_X7_of (nI i3_4) 4) 318 ∧ ((((S.2 0) ((f_X7_of (nI i3_4) 4)).toNatClampNeg) = 0 → (vp_in (f_X7_of (nI i3_4) 0) 318 ∧ ((((S.2 0) ((f_X7_of (nI i3_4) 0)).toNatClampNeg) = 1 → (ol_X7_versions_4 S a1 n4 (x2_4 + 1) (i3_4 + 1))) ∧ (¬ ((S.2 0) ((f_X7_of (nI i3_4) 0)).toNatClampNeg) = 1 → (ol_X7_versions_4 S a1 n4 (x2_4 + 0) (i3_4 + 1)))))) ∧ (¬ ((S.2 0) ((f_X7_of (nI i3_4) 4)).toNatClampNeg) = 0 → (vp_in (f_X7_of (nI i3_4) 0) 318 ∧ ((((S.2 0) ((f_X7_of (nI i3_4) 0)).toNatClampNeg) = 1 → (ol_X7_versions_4 S a1 n4 (x2_4 + 0) (i3_4 + 1))) ∧ (¬ ((S.2 0) ((f_X7_of (nI i3_4) 0)).toNatClampNeg) = 1 → (ol_X7_versions_4 S a1 n4 (x2_4 + 0) (i3_4 + 1))))))))) ∧ (¬ (a1 = 5) → ((0 < i3_4 → (vp_in (f_X7_of (nI i3_4) 2) 318 ∧ ((((S.2 0) ((f_X7_of (nI i3_4) 2)).toNatClampNeg) = 0 → (vp_in (f_X7_of (nI i3_4) 0) 318 ∧ ((((S.2 0) ((f_X7_of (nI i3_4) 0)).toNatClampNeg) = 1 → (ol_X7_versions_4 S a1 n4 (x2_4 + 1) (i3_4 + 1))) ∧ (¬ ((S.2 0) ((f_X7_of (nI i3_4) 0)).toNatClampNeg) = 1 → (ol_X7_versions_4 S a1 n4 (x2_4 + 0) (i3_4 + 1)))))) ∧ (¬ ((S.2 0) ((f_X7_of (nI i3_4) 2)).toNatClampNeg) = 0 → (vp_in (f_X7_of (nI i3_4) 0) 318 ∧ ((((S.2 0) ((f_X7_of (nI i3_4) 0)).toNatClampNeg) = 1 → (ol_X7_versions_4 S a1 n4 (x2_4 + 0) (i3_4 + 1))) ∧ (¬ ((S.2 0) ((f_X7_of (nI i3_4) 0)).toNatClampNeg) = 1 → (ol_X7_versions_4 S a1 n4 (x2_4 + 0) (i3_4 + 1))))))))) ∧ (¬ (0 < i3_4) → (vp_in (f_X7_of (nI i3_4) 0) 318 ∧ ((((S.2 0) ((f_X7_of (nI i3_4) 0)).toNatClampNeg) = 1 → (ol_X7_versions_4 S a1 n4 (x2_4 + 0) (i3_4 + 1))) ∧ (¬ ((S.2 0) ((f_X7_of (nI i3_4) 0)).toNatClampNeg) = 1 → (ol_X7_versions_4 S a1 n4 (x2_4 + 0) (i3_4 + 1)))))))))))))) ∧ (¬ (i3_4 < 24) → (ok_X7_versions_114 x2_4)))
def f_X7_versions (S : CS) (a1 : Int32) : Int32 := (l_X7_versions_4 S a1 25 0 0)
def o_X7_versions (S : CS) (a1 : Int32) : Prop := (ol_X7_versions_4 S a1 25 0 0)
set_option maxRecDepth 100000 in
set_option maxHeartbeats 8000000 in
theorem c_X7_versions (l : Launch) (g : GT) (h : Nat) (ad : Nat → Nat) (S : CS) (a1 : Int32) (hok : o_X7_versions S a1) : CR l yX7_versions (.code yX7_versions cX7_versions 5 (some .int)) 1 g [.ref h, .int a1] (wMo g h ad S) (some (.int (f_X7_versions S a1))) := by
  obtain ⟨RES, hRES⟩ : ∃ z, z = (f_X7_versions S a1) := ⟨_, rfl⟩
  rw [← hRES]
  unfold f_X7_versions at hRES
  unfold o_X7_versions at hok
  refine CRx.of (nL := 5) (ret := (some .int)) (own := RX7) (cc := cX7_versions) rfl (by decide) rfl (List.forall_mem_cons.mpr ⟨rfl, (List.forall_mem_cons.mpr ⟨rfl, (fun _ h => absurd h List.not_mem_nil)⟩)⟩) (Nat.le_of_ble_eq_true rfl) ?_
  intro k C hkl hkg
  subst hkl; subst hkg
  refine x_loc2 (L' := [some (.ref h), some (.int a1), none, none, none]) rfl ?_
  refine x_iconst (v := 0) (pc' := 1) C dX7_versions_0 rfl (by decide) ?_
  refine x_istore_n (pc' := 2) (L' := [some (.ref h), some (.int a1), some (.int 0), none, none]) C dX7_versions_1 rfl rfl (Nat.le_of_ble_eq_true rfl) rfl ?_
  refine x_iconst (v := 0) (pc' := 3) C dX7_versions_2 rfl (by decide) ?_
  refine x_istore_n (pc' := 4) (L' := [some (.ref h), some (.int a1), some (.int 0), some (.int 0), none]) C dX7_versions_3 rfl rfl (Nat.le_of_ble_eq_true rfl) rfl ?_
  have cont114 : ∀ (x2_114 : Int32), RES = k_X7_versions_114 x2_114 → ok_X7_versions_114 x2_114 → X k 0 0 (wMo (kg k) h ad S) 114 [none, none, some (.int x2_114), none, none] [] := by
    intro x2_114 hRES hok
    unfold k_X7_versions_114 at hRES
    unfold ok_X7_versions_114 at hok
    refine x_iload_n (pc' := 115) C dX7_versions_114 rfl rfl rfl ?_
    exact x_iret C (Nat.zero_le _) (Nat.zero_le _) dX7_versions_115 (by rw [hRES])
  have loop4 : ∀ (n4 : Nat) (x2_4 : Int32) (i3_4 : Nat), i3_4 ≤ 24 → 24 < i3_4 + n4 → RES = l_X7_versions_4 S a1 n4 x2_4 i3_4 → ol_X7_versions_4 S a1 n4 x2_4 i3_4 → X k 0 0 (wMo (kg k) h ad S) 4 [some (.ref h), some (.int a1), some (.int x2_4), some (.int (nI i3_4)), none] [] := by
    intro n4
    induction n4 with
    | zero =>
      intro x2_4 i3_4 hb4 hf4 hRES hok
      omega
    | succ n4 ih4 =>
      intro x2_4 i3_4 hb4 hf4 hRES hok
      rw [l_X7_versions_4] at hRES
      rw [ol_X7_versions_4] at hok
      refine x_iload_n (pc' := 5) C dX7_versions_4 rfl rfl rfl ?_
      refine x_bipush (v := 24) (pc' := 7) C dX7_versions_5 rfl (by decide) ?_
      refine x_icmpN_ge (tgt := 114) (pc' := 10) C i3_4 24 dX7_versions_7 (by decide) rfl (by omega) (by omega) (fun c1 => ?_) (fun c1 => ?_)
      · rw [if_neg c1] at hRES
        replace hok := hok.2 c1
        refine x_forget (L' := [none, none, some (.int x2_4), none, none]) [2] rfl rfl ?_
        exact cont114 x2_4 hRES hok
      · rw [if_pos c1] at hRES
        replace hok := hok.1 c1
        refine x_iload_n (pc' := 11) C dX7_versions_10 rfl rfl rfl ?_
        refine x_if_eq (tgt := 74) (pc' := 14) C dX7_versions_11 (by decide) rfl (fun c2 => ?_) (fun c2 => ?_)
        · rw [if_pos c2] at hRES
          replace hok := hok.1 c2
          refine x_iconst (v := 1) (pc' := 75) C dX7_versions_74 rfl (by decide) ?_
          refine x_goto (tgt := 79) C dX7_versions_75 (by decide) ?_
          refine x_istore (pc' := 81) (L' := [some (.ref h), some (.int a1), some (.int x2_4), some (.int (nI i3_4)), some (.int 1)]) C dX7_versions_79 rfl (Nat.le_of_ble_eq_true rfl) rfl ?_
          refine x_iload_n (pc' := 82) C dX7_versions_81 rfl rfl rfl ?_
          refine x_aload_n (pc' := 83) C dX7_versions_82 rfl rfl rfl ?_
          refine x_get (pc' := 86) (v := .ref (ad 0)) C 0 0 inBX7 rfl rfl (by decide) fl_X7_7 rfl rfl dX7_versions_83 rfl ?_
          refine x_iload_n (pc' := 87) C dX7_versions_86 rfl rfl rfl ?_
          refine x_iconst (v := 0) (pc' := 88) C dX7_versions_87 rfl (by decide) ?_
          refine x_RS (st := [.ref (ad 0), .int x2_4]) (st2 := [.int (f_X7_of (nI i3_4) 0), .ref (ad 0), .int x2_4]) (pc' := 91) C (c_X7_of (kl k) (kg k) (nI i3_4) 0) cw_X7_32 ok_X7_of (by decide) [] rfl rfl rfl (Nat.le_of_ble_eq_true rfl) (Nat.zero_le _) (Nat.zero_le _) rfl dX7_versions_88 rfl rfl ?_
          obtain ⟨hn3, hok⟩ := hok
          refine x_iald (pc' := 92) (f := S.2 0) (v := ((S.2 0) ((f_X7_of (nI i3_4) 0)).toNatClampNeg)) C 1 rfl hn3 rfl dX7_versions_91 rfl ?_
          refine x_iconst (v := 1) (pc' := 93) C dX7_versions_92 rfl (by decide) ?_
          refine x_icmp_ne (tgt := 105) (pc' := 96) C dX7_versions_93 (by decide) rfl (fun c4 => ?_) (fun c4 => ?_)
          · rw [if_neg c4] at hRES
            replace hok := hok.2 c4
            refine x_iconst (v := 0) (pc' := 106) C dX7_versions_105 rfl (by decide) ?_
            refine x_iadd (pc' := 107) (v := (x2_4 + 0)) C dX7_versions_106 rfl rfl ?_
            refine x_istore_n (pc' := 108) (L' := [some (.ref h), some (.int a1), some (.int (x2_4 + 0)), some (.int (nI i3_4)), some (.int 1)]) C dX7_versions_107 rfl rfl (Nat.le_of_ble_eq_true rfl) rfl ?_
            refine x_iinc (pc' := 111) (v := (nI (i3_4 + 1))) (L' := [some (.ref h), some (.int a1), some (.int (x2_4 + 0)), some (.int (nI (i3_4 + 1))), some (.int 1)]) C dX7_versions_108 rfl rfl (nI_add i3_4 1) (Nat.le_of_ble_eq_true rfl) rfl ?_
            refine x_goto (tgt := 4) C dX7_versions_111 (by decide) ?_
            refine x_forget (L' := [some (.ref h), some (.int a1), some (.int (x2_4 + 0)), some (.int (nI (i3_4 + 1))), none]) [0, 1, 2, 3] rfl rfl ?_
            exact ih4 (x2_4 + 0) (i3_4 + 1) (by omega) (by omega) hRES hok
          · rw [if_pos c4] at hRES
            replace hok := hok.1 c4
            refine x_iload (pc' := 98) C dX7_versions_96 rfl rfl ?_
            refine x_if_eq (tgt := 105) (pc' := 101) C dX7_versions_98 (by decide) rfl (fun c5 => absurd c5 (by decide)) (fun c5 => ?_)
            refine x_iconst (v := 1) (pc' := 102) C dX7_versions_101 rfl (by decide) ?_
            refine x_goto (tgt := 106) C dX7_versions_102 (by decide) ?_
            refine x_iadd (pc' := 107) (v := (x2_4 + 1)) C dX7_versions_106 rfl rfl ?_
            refine x_istore_n (pc' := 108) (L' := [some (.ref h), some (.int a1), some (.int (x2_4 + 1)), some (.int (nI i3_4)), some (.int 1)]) C dX7_versions_107 rfl rfl (Nat.le_of_ble_eq_true rfl) rfl ?_
            refine x_iinc (pc' := 111) (v := (nI (i3_4 + 1))) (L' := [some (.ref h), some (.int a1), some (.int (x2_4 + 1)), some (.int (nI (i3_4 + 1))), some (.int 1)]) C dX7_versions_108 rfl rfl (nI_add i3_4 1) (Nat.le_of_ble_eq_true rfl) rfl ?_
            refine x_goto (tgt := 4) C dX7_versions_111 (by decide) ?_
            refine x_forget (L' := [some (.ref h), some (.int a1), some (.int (x2_4 + 1)), some (.int (nI (i3_4 + 1))), none]) [0, 1, 2, 3] rfl rfl ?_
            exact ih4 (x2_4 + 1) (i3_4 + 1) (by omega) (by omega) hRES hok
        · rw [if_neg c2] at hRES
          replace hok := hok.2 c2
          refine x_iload_n (pc' := 15) C dX7_versions_14 rfl rfl rfl ?_
          refine x_iconst (v := 1) (pc' := 16) C dX7_versions_15 rfl (by decide) ?_
          refine x_icmp_ne (tgt := 36) (pc' := 19) C dX7_versions_16 (by decide) rfl (fun c6 => ?_) (fun c6 => ?_)
          · rw [if_neg c6] at hRES
            replace hok := hok.2 c6
            refine x_iload_n (pc' := 37) C dX7_versions_36 rfl rfl rfl ?_
            refine x_iconst (v := 5) (pc' := 38) C dX7_versions_37 rfl (by decide) ?_
            refine x_icmp_ne (tgt := 57) (pc' := 41) C dX7_versions_38 (by decide) rfl (fun c7 => ?_) (fun c7 => ?_)
            · rw [if_neg c7] at hRES
              replace hok := hok.2 c7
              refine x_iload_n (pc' := 58) C dX7_versions_57 rfl rfl rfl ?_
              refine x_ifN_le (tgt := 78) (pc' := 61) C i3_4 dX7_versions_58 (by decide) rfl (by omega) (fun c8 => ?_) (fun c8 => ?_)
              · rw [if_neg c8] at hRES
                replace hok := hok.2 c8
                refine x_iconst (v := 0) (pc' := 79) C dX7_versions_78 rfl (by decide) ?_
                refine x_istore (pc' := 81) (L' := [some (.ref h), some (.int a1), some (.int x2_4), some (.int (nI i3_4)), some (.int 0)]) C dX7_versions_79 rfl (Nat.le_of_ble_eq_true rfl) rfl ?_
                refine x_iload_n (pc' := 82) C dX7_versions_81 rfl rfl rfl ?_
                refine x_aload_n (pc' := 83) C dX7_versions_82 rfl rfl rfl ?_
                refine x_get (pc' := 86) (v := .ref (ad 0)) C 0 0 inBX7 rfl rfl (by decide) fl_X7_7 rfl rfl dX7_versions_83 rfl ?_
                refine x_iload_n (pc' := 87) C dX7_versions_86 rfl rfl rfl ?_
                refine x_iconst (v := 0) (pc' := 88) C dX7_versions_87 rfl (by decide) ?_
                refine x_RS (st := [.ref (ad 0), .int x2_4]) (st2 := [.int (f_X7_of (nI i3_4) 0), .ref (ad 0), .int x2_4]) (pc' := 91) C (c_X7_of (kl k) (kg k) (nI i3_4) 0) cw_X7_32 ok_X7_of (by decide) [] rfl rfl rfl (Nat.le_of_ble_eq_true rfl) (Nat.zero_le _) (Nat.zero_le _) rfl dX7_versions_88 rfl rfl ?_
                obtain ⟨hn9, hok⟩ := hok
                refine x_iald (pc' := 92) (f := S.2 0) (v := ((S.2 0) ((f_X7_of (nI i3_4) 0)).toNatClampNeg)) C 1 rfl hn9 rfl dX7_versions_91 rfl ?_
                refine x_iconst (v := 1) (pc' := 93) C dX7_versions_92 rfl (by decide) ?_
                refine x_icmp_ne (tgt := 105) (pc' := 96) C dX7_versions_93 (by decide) rfl (fun c10 => ?_) (fun c10 => ?_)
                · rw [if_neg c10] at hRES
                  replace hok := hok.2 c10
                  refine x_iconst (v := 0) (pc' := 106) C dX7_versions_105 rfl (by decide) ?_
                  refine x_iadd (pc' := 107) (v := (x2_4 + 0)) C dX7_versions_106 rfl rfl ?_
                  refine x_istore_n (pc' := 108) (L' := [some (.ref h), some (.int a1), some (.int (x2_4 + 0)), some (.int (nI i3_4)), some (.int 0)]) C dX7_versions_107 rfl rfl (Nat.le_of_ble_eq_true rfl) rfl ?_
                  refine x_iinc (pc' := 111) (v := (nI (i3_4 + 1))) (L' := [some (.ref h), some (.int a1), some (.int (x2_4 + 0)), some (.int (nI (i3_4 + 1))), some (.int 0)]) C dX7_versions_108 rfl rfl (nI_add i3_4 1) (Nat.le_of_ble_eq_true rfl) rfl ?_
                  refine x_goto (tgt := 4) C dX7_versions_111 (by decide) ?_
                  refine x_forget (L' := [some (.ref h), some (.int a1), some (.int (x2_4 + 0)), some (.int (nI (i3_4 + 1))), none]) [0, 1, 2, 3] rfl rfl ?_
                  exact ih4 (x2_4 + 0) (i3_4 + 1) (by omega) (by omega) hRES hok
                · rw [if_pos c10] at hRES
                  replace hok := hok.1 c10
                  refine x_iload (pc' := 98) C dX7_versions_96 rfl rfl ?_
                  refine x_if_eq (tgt := 105) (pc' := 101) C dX7_versions_98 (by decide) rfl (fun c11 => ?_) (fun c11 => absurd c11 (by decide))
                  refine x_iconst (v := 0) (pc' := 106) C dX7_versions_105 rfl (by decide) ?_
                  refine x_iadd (pc' := 107) (v := (x2_4 + 0)) C dX7_versions_106 rfl rfl ?_
                  refine x_istore_n (pc' := 108) (L' := [some (.ref h), some (.int a1), some (.int (x2_4 + 0)), some (.int (nI i3_4)), some (.int 0)]) C dX7_versions_107 rfl rfl (Nat.le_of_ble_eq_true rfl) rfl ?_
                  refine x_iinc (pc' := 111) (v := (nI (i3_4 + 1))) (L' := [some (.ref h), some (.int a1), some (.int (x2_4 + 0)), some (.int (nI (i3_4 + 1))), some (.int 0)]) C dX7_versions_108 rfl rfl (nI_add i3_4 1) (Nat.le_of_ble_eq_true rfl) rfl ?_
                  refine x_goto (tgt := 4) C dX7_versions_111 (by decide) ?_
                  refine x_forget (L' := [some (.ref h), some (.int a1), some (.int (x2_4 + 0)), some (.int (nI (i3_4 + 1))), none]) [0, 1, 2, 3] rfl rfl ?_
                  exact ih4 (x2_4 + 0) (i3_4 + 1) (by omega) (by omega) hRES hok
              · rw [if_pos c8] at hRES
                replace hok := hok.1 c8
                refine x_aload_n (pc' := 62) C dX7_versions_61 rfl rfl rfl ?_
                refine x_get (pc' := 65) (v := .ref (ad 0)) C 0 0 inBX7 rfl rfl (by decide) fl_X7_7 rfl rfl dX7_versions_62 rfl ?_
                refine x_iload_n (pc' := 66) C dX7_versions_65 rfl rfl rfl ?_
                refine x_iconst (v := 2) (pc' := 67) C dX7_versions_66 rfl (by decide) ?_
                refine x_RS (st := [.ref (ad 0)]) (st2 := [.int (f_X7_of (nI i3_4) 2), .ref (ad 0)]) (pc' := 70) C (c_X7_of (kl k) (kg k) (nI i3_4) 2) cw_X7_32 ok_X7_of (by decide) [] rfl rfl rfl (Nat.le_of_ble_eq_true rfl) (Nat.zero_le _) (Nat.zero_le _) rfl dX7_versions_67 rfl rfl ?_
                obtain ⟨hn12, hok⟩ := hok
                refine x_iald (pc' := 71) (f := S.2 0) (v := ((S.2 0) ((f_X7_of (nI i3_4) 2)).toNatClampNeg)) C 1 rfl hn12 rfl dX7_versions_70 rfl ?_
                refine x_if_ne (tgt := 78) (pc' := 74) C dX7_versions_71 (by decide) rfl (fun c13 => ?_) (fun c13 => ?_)
                · rw [if_neg c13] at hRES
                  replace hok := hok.2 c13
                  refine x_iconst (v := 0) (pc' := 79) C dX7_versions_78 rfl (by decide) ?_
                  refine x_istore (pc' := 81) (L' := [some (.ref h), some (.int a1), some (.int x2_4), some (.int (nI i3_4)), some (.int 0)]) C dX7_versions_79 rfl (Nat.le_of_ble_eq_true rfl) rfl ?_
                  refine x_iload_n (pc' := 82) C dX7_versions_81 rfl rfl rfl ?_
                  refine x_aload_n (pc' := 83) C dX7_versions_82 rfl rfl rfl ?_
                  refine x_get (pc' := 86) (v := .ref (ad 0)) C 0 0 inBX7 rfl rfl (by decide) fl_X7_7 rfl rfl dX7_versions_83 rfl ?_
                  refine x_iload_n (pc' := 87) C dX7_versions_86 rfl rfl rfl ?_
                  refine x_iconst (v := 0) (pc' := 88) C dX7_versions_87 rfl (by decide) ?_
                  refine x_RS (st := [.ref (ad 0), .int x2_4]) (st2 := [.int (f_X7_of (nI i3_4) 0), .ref (ad 0), .int x2_4]) (pc' := 91) C (c_X7_of (kl k) (kg k) (nI i3_4) 0) cw_X7_32 ok_X7_of (by decide) [] rfl rfl rfl (Nat.le_of_ble_eq_true rfl) (Nat.zero_le _) (Nat.zero_le _) rfl dX7_versions_88 rfl rfl ?_
                  obtain ⟨hn14, hok⟩ := hok
                  refine x_iald (pc' := 92) (f := S.2 0) (v := ((S.2 0) ((f_X7_of (nI i3_4) 0)).toNatClampNeg)) C 1 rfl hn14 rfl dX7_versions_91 rfl ?_
                  refine x_iconst (v := 1) (pc' := 93) C dX7_versions_92 rfl (by decide) ?_
                  refine x_icmp_ne (tgt := 105) (pc' := 96) C dX7_versions_93 (by decide) rfl (fun c15 => ?_) (fun c15 => ?_)
                  · rw [if_neg c15] at hRES
                    replace hok := hok.2 c15
                    refine x_iconst (v := 0) (pc' := 106) C dX7_versions_105 rfl (by decide) ?_
                    refine x_iadd (pc' := 107) (v := (x2_4 + 0)) C dX7_versions_106 rfl rfl ?_
                    refine x_istore_n (pc' := 108) (L' := [some (.ref h), some (.int a1), some (.int (x2_4 + 0)), some (.int (nI i3_4)), some (.int 0)]) C dX7_versions_107 rfl rfl (Nat.le_of_ble_eq_true rfl) rfl ?_
                    refine x_iinc (pc' := 111) (v := (nI (i3_4 + 1))) (L' := [some (.ref h), some (.int a1), some (.int (x2_4 + 0)), some (.int (nI (i3_4 + 1))), some (.int 0)]) C dX7_versions_108 rfl rfl (nI_add i3_4 1) (Nat.le_of_ble_eq_true rfl) rfl ?_
                    refine x_goto (tgt := 4) C dX7_versions_111 (by decide) ?_
                    refine x_forget (L' := [some (.ref h), some (.int a1), some (.int (x2_4 + 0)), some (.int (nI (i3_4 + 1))), none]) [0, 1, 2, 3] rfl rfl ?_
                    exact ih4 (x2_4 + 0) (i3_4 + 1) (by omega) (by omega) hRES hok
                  · rw [if_pos c15] at hRES
                    replace hok := hok.1 c15
                    refine x_iload (pc' := 98) C dX7_versions_96 rfl rfl ?_
                    refine x_if_eq (tgt := 105) (pc' := 101) C dX7_versions_98 (by decide) rfl (fun c16 => ?_) (fun c16 => absurd c16 (by decide))
                    refine x_iconst (v := 0) (pc' := 106) C dX7_versions_105 rfl (by decide) ?_
                    refine x_iadd (pc' := 107) (v := (x2_4 + 0)) C dX7_versions_106 rfl rfl ?_
                    refine x_istore_n (pc' := 108) (L' := [some (.ref h), some (.int a1), some (.int (x2_4 + 0)), some (.int (nI i3_4)), some (.int 0)]) C dX7_versions_107 rfl rfl (Nat.le_of_ble_eq_true rfl) rfl ?_
                    refine x_iinc (pc' := 111) (v := (nI (i3_4 + 1))) (L' := [some (.ref h), some (.int a1), some (.int (x2_4 + 0)), some (.int (nI (i3_4 + 1))), some (.int 0)]) C dX7_versions_108 rfl rfl (nI_add i3_4 1) (Nat.le_of_ble_eq_true rfl) rfl ?_
                    refine x_goto (tgt := 4) C dX7_versions_111 (by decide) ?_
                    refine x_forget (L' := [some (.ref h), some (.int a1), some (.int (x2_4 + 0)), some (.int (nI (i3_4 + 1))), none]) [0, 1, 2, 3] rfl rfl ?_
                    exact ih4 (x2_4 + 0) (i3_4 + 1) (by omega) (by omega) hRES hok
                · rw [if_pos c13] at hRES
                  replace hok := hok.1 c13
                  refine x_iconst (v := 1) (pc' := 75) C dX7_versions_74 rfl (by decide) ?_
                  refine x_goto (tgt := 79) C dX7_versions_75 (by decide) ?_
                  refine x_istore (pc' := 81) (L' := [some (.ref h), some (.int a1), some (.int x2_4), some (.int (nI i3_4)), some (.int 1)]) C dX7_versions_79 rfl (Nat.le_of_ble_eq_true rfl) rfl ?_
                  refine x_iload_n (pc' := 82) C dX7_versions_81 rfl rfl rfl ?_
                  refine x_aload_n (pc' := 83) C dX7_versions_82 rfl rfl rfl ?_
                  refine x_get (pc' := 86) (v := .ref (ad 0)) C 0 0 inBX7 rfl rfl (by decide) fl_X7_7 rfl rfl dX7_versions_83 rfl ?_
                  refine x_iload_n (pc' := 87) C dX7_versions_86 rfl rfl rfl ?_
                  refine x_iconst (v := 0) (pc' := 88) C dX7_versions_87 rfl (by decide) ?_
                  refine x_RS (st := [.ref (ad 0), .int x2_4]) (st2 := [.int (f_X7_of (nI i3_4) 0), .ref (ad 0), .int x2_4]) (pc' := 91) C (c_X7_of (kl k) (kg k) (nI i3_4) 0) cw_X7_32 ok_X7_of (by decide) [] rfl rfl rfl (Nat.le_of_ble_eq_true rfl) (Nat.zero_le _) (Nat.zero_le _) rfl dX7_versions_88 rfl rfl ?_
                  obtain ⟨hn17, hok⟩ := hok
                  refine x_iald (pc' := 92) (f := S.2 0) (v := ((S.2 0) ((f_X7_of (nI i3_4) 0)).toNatClampNeg)) C 1 rfl hn17 rfl dX7_versions_91 rfl ?_
                  refine x_iconst (v := 1) (pc' := 93) C dX7_versions_92 rfl (by decide) ?_
                  refine x_icmp_ne (tgt := 105) (pc' := 96) C dX7_versions_93 (by decide) rfl (fun c18 => ?_) (fun c18 => ?_)
                  · rw [if_neg c18] at hRES
                    replace hok := hok.2 c18
                    refine x_iconst (v := 0) (pc' := 106) C dX7_versions_105 rfl (by decide) ?_
                    refine x_iadd (pc' := 107) (v := (x2_4 + 0)) C dX7_versions_106 rfl rfl ?_
                    refine x_istore_n (pc' := 108) (L' := [some (.ref h), some (.int a1), some (.int (x2_4 + 0)), some (.int (nI i3_4)), some (.int 1)]) C dX7_versions_107 rfl rfl (Nat.le_of_ble_eq_true rfl) rfl ?_
                    refine x_iinc (pc' := 111) (v := (nI (i3_4 + 1))) (L' := [some (.ref h), some (.int a1), some (.int (x2_4 + 0)), some (.int (nI (i3_4 + 1))), some (.int 1)]) C dX7_versions_108 rfl rfl (nI_add i3_4 1) (Nat.le_of_ble_eq_true rfl) rfl ?_
                    refine x_goto (tgt := 4) C dX7_versions_111 (by decide) ?_
                    refine x_forget (L' := [some (.ref h), some (.int a1), some (.int (x2_4 + 0)), some (.int (nI (i3_4 + 1))), none]) [0, 1, 2, 3] rfl rfl ?_
                    exact ih4 (x2_4 + 0) (i3_4 + 1) (by omega) (by omega) hRES hok
                  · rw [if_pos c18] at hRES
                    replace hok := hok.1 c18
                    refine x_iload (pc' := 98) C dX7_versions_96 rfl rfl ?_
                    refine x_if_eq (tgt := 105) (pc' := 101) C dX7_versions_98 (by decide) rfl (fun c19 => absurd c19 (by decide)) (fun c19 => ?_)
                    refine x_iconst (v := 1) (pc' := 102) C dX7_versions_101 rfl (by decide) ?_
                    refine x_goto (tgt := 106) C dX7_versions_102 (by decide) ?_
                    refine x_iadd (pc' := 107) (v := (x2_4 + 1)) C dX7_versions_106 rfl rfl ?_
                    refine x_istore_n (pc' := 108) (L' := [some (.ref h), some (.int a1), some (.int (x2_4 + 1)), some (.int (nI i3_4)), some (.int 1)]) C dX7_versions_107 rfl rfl (Nat.le_of_ble_eq_true rfl) rfl ?_
                    refine x_iinc (pc' := 111) (v := (nI (i3_4 + 1))) (L' := [some (.ref h), some (.int a1), some (.int (x2_4 + 1)), some (.int (nI (i3_4 + 1))), some (.int 1)]) C dX7_versions_108 rfl rfl (nI_add i3_4 1) (Nat.le_of_ble_eq_true rfl) rfl ?_
                    refine x_goto (tgt := 4) C dX7_versions_111 (by decide) ?_
                    refine x_forget (L' := [some (.ref h), some (.int a1), some (.int (x2_4 + 1)), some (.int (nI (i3_4 + 1))), none]) [0, 1, 2, 3] rfl rfl ?_
                    exact ih4 (x2_4 + 1) (i3_4 + 1) (by omega) (by omega) hRES hok
            · rw [if_pos c7] at hRES
              replace hok := hok.1 c7
              refine x_aload_n (pc' := 42) C dX7_versions_41 rfl rfl rfl ?_
              refine x_get (pc' := 45) (v := .ref (ad 0)) C 0 0 inBX7 rfl rfl (by decide) fl_X7_7 rfl rfl dX7_versions_42 rfl ?_
              refine x_iload_n (pc' := 46) C dX7_versions_45 rfl rfl rfl ?_
              refine x_iconst (v := 4) (pc' := 47) C dX7_versions_46 rfl (by decide) ?_
              refine x_RS (st := [.ref (ad 0)]) (st2 := [.int (f_X7_of (nI i3_4) 4), .ref (ad 0)]) (pc' := 50) C (c_X7_of (kl k) (kg k) (nI i3_4) 4) cw_X7_32 ok_X7_of (by decide) [] rfl rfl rfl (Nat.le_of_ble_eq_true rfl) (Nat.zero_le _) (Nat.zero_le _) rfl dX7_versions_47 rfl rfl ?_
              obtain ⟨hn20, hok⟩ := hok
              refine x_iald (pc' := 51) (f := S.2 0) (v := ((S.2 0) ((f_X7_of (nI i3_4) 4)).toNatClampNeg)) C 1 rfl hn20 rfl dX7_versions_50 rfl ?_
              refine x_if_ne (tgt := 78) (pc' := 54) C dX7_versions_51 (by decide) rfl (fun c21 => ?_) (fun c21 => ?_)
              · rw [if_neg c21] at hRES
                replace hok := hok.2 c21
                refine x_iconst (v := 0) (pc' := 79) C dX7_versions_78 rfl (by decide) ?_
                refine x_istore (pc' := 81) (L' := [some (.ref h), some (.int a1), some (.int x2_4), some (.int (nI i3_4)), some (.int 0)]) C dX7_versions_79 rfl (Nat.le_of_ble_eq_true rfl) rfl ?_
                refine x_iload_n (pc' := 82) C dX7_versions_81 rfl rfl rfl ?_
                refine x_aload_n (pc' := 83) C dX7_versions_82 rfl rfl rfl ?_
                refine x_get (pc' := 86) (v := .ref (ad 0)) C 0 0 inBX7 rfl rfl (by decide) fl_X7_7 rfl rfl dX7_versions_83 rfl ?_
                refine x_iload_n (pc' := 87) C dX7_versions_86 rfl rfl rfl ?_
                refine x_iconst (v := 0) (pc' := 88) C dX7_versions_87 rfl (by decide) ?_
                refine x_RS (st := [.ref (ad 0), .int x2_4]) (st2 := [.int (f_X7_of (nI i3_4) 0), .ref (ad 0), .int x2_4]) (pc' := 91) C (c_X7_of (kl k) (kg k) (nI i3_4) 0) cw_X7_32 ok_X7_of (by decide) [] rfl rfl rfl (Nat.le_of_ble_eq_true rfl) (Nat.zero_le _) (Nat.zero_le _) rfl dX7_versions_88 rfl rfl ?_
                obtain ⟨hn22, hok⟩ := hok
                refine x_iald (pc' := 92) (f := S.2 0) (v := ((S.2 0) ((f_X7_of (nI i3_4) 0)).toNatClampNeg)) C 1 rfl hn22 rfl dX7_versions_91 rfl ?_
                refine x_iconst (v := 1) (pc' := 93) C dX7_versions_92 rfl (by decide) ?_
                refine x_icmp_ne (tgt := 105) (pc' := 96) C dX7_versions_93 (by decide) rfl (fun c23 => ?_) (fun c23 => ?_)
                · rw [if_neg c23] at hRES
                  replace hok := hok.2 c23
                  refine x_iconst (v := 0) (pc' := 106) C dX7_versions_105 rfl (by decide) ?_
                  refine x_iadd (pc' := 107) (v := (x2_4 + 0)) C dX7_versions_106 rfl rfl ?_
                  refine x_istore_n (pc' := 108) (L' := [some (.ref h), some (.int a1), some (.int (x2_4 + 0)), some (.int (nI i3_4)), some (.int 0)]) C dX7_versions_107 rfl rfl (Nat.le_of_ble_eq_true rfl) rfl ?_
                  refine x_iinc (pc' := 111) (v := (nI (i3_4 + 1))) (L' := [some (.ref h), some (.int a1), some (.int (x2_4 + 0)), some (.int (nI (i3_4 + 1))), some (.int 0)]) C dX7_versions_108 rfl rfl (nI_add i3_4 1) (Nat.le_of_ble_eq_true rfl) rfl ?_
                  refine x_goto (tgt := 4) C dX7_versions_111 (by decide) ?_
                  refine x_forget (L' := [some (.ref h), some (.int a1), some (.int (x2_4 + 0)), some (.int (nI (i3_4 + 1))), none]) [0, 1, 2, 3] rfl rfl ?_
                  exact ih4 (x2_4 + 0) (i3_4 + 1) (by omega) (by omega) hRES hok
                · rw [if_pos c23] at hRES
                  replace hok := hok.1 c23
                  refine x_iload (pc' := 98) C dX7_versions_96 rfl rfl ?_
                  refine x_if_eq (tgt := 105) (pc' := 101) C dX7_versions_98 (by decide) rfl (fun c24 => ?_) (fun c24 => absurd c24 (by decide))
                  refine x_iconst (v := 0) (pc' := 106) C dX7_versions_105 rfl (by decide) ?_
                  refine x_iadd (pc' := 107) (v := (x2_4 + 0)) C dX7_versions_106 rfl rfl ?_
                  refine x_istore_n (pc' := 108) (L' := [some (.ref h), some (.int a1), some (.int (x2_4 + 0)), some (.int (nI i3_4)), some (.int 0)]) C dX7_versions_107 rfl rfl (Nat.le_of_ble_eq_true rfl) rfl ?_
                  refine x_iinc (pc' := 111) (v := (nI (i3_4 + 1))) (L' := [some (.ref h), some (.int a1), some (.int (x2_4 + 0)), some (.int (nI (i3_4 + 1))), some (.int 0)]) C dX7_versions_108 rfl rfl (nI_add i3_4 1) (Nat.le_of_ble_eq_true rfl) rfl ?_
                  refine x_goto (tgt := 4) C dX7_versions_111 (by decide) ?_
                  refine x_forget (L' := [some (.ref h), some (.int a1), some (.int (x2_4 + 0)), some (.int (nI (i3_4 + 1))), none]) [0, 1, 2, 3] rfl rfl ?_
                  exact ih4 (x2_4 + 0) (i3_4 + 1) (by omega) (by omega) hRES hok
              · rw [if_pos c21] at hRES
                replace hok := hok.1 c21
                refine x_goto (tgt := 74) C dX7_versions_54 (by decide) ?_
                refine x_iconst (v := 1) (pc' := 75) C dX7_versions_74 rfl (by decide) ?_
                refine x_goto (tgt := 79) C dX7_versions_75 (by decide) ?_
                refine x_istore (pc' := 81) (L' := [some (.ref h), some (.int a1), some (.int x2_4), some (.int (nI i3_4)), some (.int 1)]) C dX7_versions_79 rfl (Nat.le_of_ble_eq_true rfl) rfl ?_
                refine x_iload_n (pc' := 82) C dX7_versions_81 rfl rfl rfl ?_
                refine x_aload_n (pc' := 83) C dX7_versions_82 rfl rfl rfl ?_
                refine x_get (pc' := 86) (v := .ref (ad 0)) C 0 0 inBX7 rfl rfl (by decide) fl_X7_7 rfl rfl dX7_versions_83 rfl ?_
                refine x_iload_n (pc' := 87) C dX7_versions_86 rfl rfl rfl ?_
                refine x_iconst (v := 0) (pc' := 88) C dX7_versions_87 rfl (by decide) ?_
                refine x_RS (st := [.ref (ad 0), .int x2_4]) (st2 := [.int (f_X7_of (nI i3_4) 0), .ref (ad 0), .int x2_4]) (pc' := 91) C (c_X7_of (kl k) (kg k) (nI i3_4) 0) cw_X7_32 ok_X7_of (by decide) [] rfl rfl rfl (Nat.le_of_ble_eq_true rfl) (Nat.zero_le _) (Nat.zero_le _) rfl dX7_versions_88 rfl rfl ?_
                obtain ⟨hn25, hok⟩ := hok
                refine x_iald (pc' := 92) (f := S.2 0) (v := ((S.2 0) ((f_X7_of (nI i3_4) 0)).toNatClampNeg)) C 1 rfl hn25 rfl dX7_versions_91 rfl ?_
                refine x_iconst (v := 1) (pc' := 93) C dX7_versions_92 rfl (by decide) ?_
                refine x_icmp_ne (tgt := 105) (pc' := 96) C dX7_versions_93 (by decide) rfl (fun c26 => ?_) (fun c26 => ?_)
                · rw [if_neg c26] at hRES
                  replace hok := hok.2 c26
                  refine x_iconst (v := 0) (pc' := 106) C dX7_versions_105 rfl (by decide) ?_
                  refine x_iadd (pc' := 107) (v := (x2_4 + 0)) C dX7_versions_106 rfl rfl ?_
                  refine x_istore_n (pc' := 108) (L' := [some (.ref h), some (.int a1), some (.int (x2_4 + 0)), some (.int (nI i3_4)), some (.int 1)]) C dX7_versions_107 rfl rfl (Nat.le_of_ble_eq_true rfl) rfl ?_
                  refine x_iinc (pc' := 111) (v := (nI (i3_4 + 1))) (L' := [some (.ref h), some (.int a1), some (.int (x2_4 + 0)), some (.int (nI (i3_4 + 1))), some (.int 1)]) C dX7_versions_108 rfl rfl (nI_add i3_4 1) (Nat.le_of_ble_eq_true rfl) rfl ?_
                  refine x_goto (tgt := 4) C dX7_versions_111 (by decide) ?_
                  refine x_forget (L' := [some (.ref h), some (.int a1), some (.int (x2_4 + 0)), some (.int (nI (i3_4 + 1))), none]) [0, 1, 2, 3] rfl rfl ?_
                  exact ih4 (x2_4 + 0) (i3_4 + 1) (by omega) (by omega) hRES hok
                · rw [if_pos c26] at hRES
                  replace hok := hok.1 c26
                  refine x_iload (pc' := 98) C dX7_versions_96 rfl rfl ?_
                  refine x_if_eq (tgt := 105) (pc' := 101) C dX7_versions_98 (by decide) rfl (fun c27 => absurd c27 (by decide)) (fun c27 => ?_)
                  refine x_iconst (v := 1) (pc' := 102) C dX7_versions_101 rfl (by decide) ?_
                  refine x_goto (tgt := 106) C dX7_versions_102 (by decide) ?_
                  refine x_iadd (pc' := 107) (v := (x2_4 + 1)) C dX7_versions_106 rfl rfl ?_
                  refine x_istore_n (pc' := 108) (L' := [some (.ref h), some (.int a1), some (.int (x2_4 + 1)), some (.int (nI i3_4)), some (.int 1)]) C dX7_versions_107 rfl rfl (Nat.le_of_ble_eq_true rfl) rfl ?_
                  refine x_iinc (pc' := 111) (v := (nI (i3_4 + 1))) (L' := [some (.ref h), some (.int a1), some (.int (x2_4 + 1)), some (.int (nI (i3_4 + 1))), some (.int 1)]) C dX7_versions_108 rfl rfl (nI_add i3_4 1) (Nat.le_of_ble_eq_true rfl) rfl ?_
                  refine x_goto (tgt := 4) C dX7_versions_111 (by decide) ?_
                  refine x_forget (L' := [some (.ref h), some (.int a1), some (.int (x2_4 + 1)), some (.int (nI (i3_4 + 1))), none]) [0, 1, 2, 3] rfl rfl ?_
                  exact ih4 (x2_4 + 1) (i3_4 + 1) (by omega) (by omega) hRES hok
          · rw [if_pos c6] at hRES
            replace hok := hok.1 c6
            refine x_aload_n (pc' := 20) C dX7_versions_19 rfl rfl rfl ?_
            refine x_get (pc' := 23) (v := .ref (ad 0)) C 0 0 inBX7 rfl rfl (by decide) fl_X7_7 rfl rfl dX7_versions_20 rfl ?_
            refine x_iload_n (pc' := 24) C dX7_versions_23 rfl rfl rfl ?_
            refine x_iconst (v := 3) (pc' := 25) C dX7_versions_24 rfl (by decide) ?_
            refine x_RS (st := [.ref (ad 0)]) (st2 := [.int (f_X7_of (nI i3_4) 3), .ref (ad 0)]) (pc' := 28) C (c_X7_of (kl k) (kg k) (nI i3_4) 3) cw_X7_32 ok_X7_of (by decide) [] rfl rfl rfl (Nat.le_of_ble_eq_true rfl) (Nat.zero_le _) (Nat.zero_le _) rfl dX7_versions_25 rfl rfl ?_
            obtain ⟨hn28, hok⟩ := hok
            refine x_iald (pc' := 29) (f := S.2 0) (v := ((S.2 0) ((f_X7_of (nI i3_4) 3)).toNatClampNeg)) C 1 rfl hn28 rfl dX7_versions_28 rfl ?_
            refine x_iconst (v := 1) (pc' := 30) C dX7_versions_29 rfl (by decide) ?_
            refine x_icmp_ne (tgt := 78) (pc' := 33) C dX7_versions_30 (by decide) rfl (fun c29 => ?_) (fun c29 => ?_)
            · rw [if_neg c29] at hRES
              replace hok := hok.2 c29
              refine x_iconst (v := 0) (pc' := 79) C dX7_versions_78 rfl (by decide) ?_
              refine x_istore (pc' := 81) (L' := [some (.ref h), some (.int a1), some (.int x2_4), some (.int (nI i3_4)), some (.int 0)]) C dX7_versions_79 rfl (Nat.le_of_ble_eq_true rfl) rfl ?_
              refine x_iload_n (pc' := 82) C dX7_versions_81 rfl rfl rfl ?_
              refine x_aload_n (pc' := 83) C dX7_versions_82 rfl rfl rfl ?_
              refine x_get (pc' := 86) (v := .ref (ad 0)) C 0 0 inBX7 rfl rfl (by decide) fl_X7_7 rfl rfl dX7_versions_83 rfl ?_
              refine x_iload_n (pc' := 87) C dX7_versions_86 rfl rfl rfl ?_
              refine x_iconst (v := 0) (pc' := 88) C dX7_versions_87 rfl (by decide) ?_
              refine x_RS (st := [.ref (ad 0), .int x2_4]) (st2 := [.int (f_X7_of (nI i3_4) 0), .ref (ad 0), .int x2_4]) (pc' := 91) C (c_X7_of (kl k) (kg k) (nI i3_4) 0) cw_X7_32 ok_X7_of (by decide) [] rfl rfl rfl (Nat.le_of_ble_eq_true rfl) (Nat.zero_le _) (Nat.zero_le _) rfl dX7_versions_88 rfl rfl ?_
              obtain ⟨hn30, hok⟩ := hok
              refine x_iald (pc' := 92) (f := S.2 0) (v := ((S.2 0) ((f_X7_of (nI i3_4) 0)).toNatClampNeg)) C 1 rfl hn30 rfl dX7_versions_91 rfl ?_
              refine x_iconst (v := 1) (pc' := 93) C dX7_versions_92 rfl (by decide) ?_
              refine x_icmp_ne (tgt := 105) (pc' := 96) C dX7_versions_93 (by decide) rfl (fun c31 => ?_) (fun c31 => ?_)
              · rw [if_neg c31] at hRES
                replace hok := hok.2 c31
                refine x_iconst (v := 0) (pc' := 106) C dX7_versions_105 rfl (by decide) ?_
                refine x_iadd (pc' := 107) (v := (x2_4 + 0)) C dX7_versions_106 rfl rfl ?_
                refine x_istore_n (pc' := 108) (L' := [some (.ref h), some (.int a1), some (.int (x2_4 + 0)), some (.int (nI i3_4)), some (.int 0)]) C dX7_versions_107 rfl rfl (Nat.le_of_ble_eq_true rfl) rfl ?_
                refine x_iinc (pc' := 111) (v := (nI (i3_4 + 1))) (L' := [some (.ref h), some (.int a1), some (.int (x2_4 + 0)), some (.int (nI (i3_4 + 1))), some (.int 0)]) C dX7_versions_108 rfl rfl (nI_add i3_4 1) (Nat.le_of_ble_eq_true rfl) rfl ?_
                refine x_goto (tgt := 4) C dX7_versions_111 (by decide) ?_
                refine x_forget (L' := [some (.ref h), some (.int a1), some (.int (x2_4 + 0)), some (.int (nI (i3_4 + 1))), none]) [0, 1, 2, 3] rfl rfl ?_
                exact ih4 (x2_4 + 0) (i3_4 + 1) (by omega) (by omega) hRES hok
              · rw [if_pos c31] at hRES
                replace hok := hok.1 c31
                refine x_iload (pc' := 98) C dX7_versions_96 rfl rfl ?_
                refine x_if_eq (tgt := 105) (pc' := 101) C dX7_versions_98 (by decide) rfl (fun c32 => ?_) (fun c32 => absurd c32 (by decide))
                refine x_iconst (v := 0) (pc' := 106) C dX7_versions_105 rfl (by decide) ?_
                refine x_iadd (pc' := 107) (v := (x2_4 + 0)) C dX7_versions_106 rfl rfl ?_
                refine x_istore_n (pc' := 108) (L' := [some (.ref h), some (.int a1), some (.int (x2_4 + 0)), some (.int (nI i3_4)), some (.int 0)]) C dX7_versions_107 rfl rfl (Nat.le_of_ble_eq_true rfl) rfl ?_
                refine x_iinc (pc' := 111) (v := (nI (i3_4 + 1))) (L' := [some (.ref h), some (.int a1), some (.int (x2_4 + 0)), some (.int (nI (i3_4 + 1))), some (.int 0)]) C dX7_versions_108 rfl rfl (nI_add i3_4 1) (Nat.le_of_ble_eq_true rfl) rfl ?_
                refine x_goto (tgt := 4) C dX7_versions_111 (by decide) ?_
                refine x_forget (L' := [some (.ref h), some (.int a1), some (.int (x2_4 + 0)), some (.int (nI (i3_4 + 1))), none]) [0, 1, 2, 3] rfl rfl ?_
                exact ih4 (x2_4 + 0) (i3_4 + 1) (by omega) (by omega) hRES hok
            · rw [if_pos c29] at hRES
              replace hok := hok.1 c29
              refine x_goto (tgt := 74) C dX7_versions_33 (by decide) ?_
              refine x_iconst (v := 1) (pc' := 75) C dX7_versions_74 rfl (by decide) ?_
              refine x_goto (tgt := 79) C dX7_versions_75 (by decide) ?_
              refine x_istore (pc' := 81) (L' := [some (.ref h), some (.int a1), some (.int x2_4), some (.int (nI i3_4)), some (.int 1)]) C dX7_versions_79 rfl (Nat.le_of_ble_eq_true rfl) rfl ?_
              refine x_iload_n (pc' := 82) C dX7_versions_81 rfl rfl rfl ?_
              refine x_aload_n (pc' := 83) C dX7_versions_82 rfl rfl rfl ?_
              refine x_get (pc' := 86) (v := .ref (ad 0)) C 0 0 inBX7 rfl rfl (by decide) fl_X7_7 rfl rfl dX7_versions_83 rfl ?_
              refine x_iload_n (pc' := 87) C dX7_versions_86 rfl rfl rfl ?_
              refine x_iconst (v := 0) (pc' := 88) C dX7_versions_87 rfl (by decide) ?_
              refine x_RS (st := [.ref (ad 0), .int x2_4]) (st2 := [.int (f_X7_of (nI i3_4) 0), .ref (ad 0), .int x2_4]) (pc' := 91) C (c_X7_of (kl k) (kg k) (nI i3_4) 0) cw_X7_32 ok_X7_of (by decide) [] rfl rfl rfl (Nat.le_of_ble_eq_true rfl) (Nat.zero_le _) (Nat.zero_le _) rfl dX7_versions_88 rfl rfl ?_
              obtain ⟨hn33, hok⟩ := hok
              refine x_iald (pc' := 92) (f := S.2 0) (v := ((S.2 0) ((f_X7_of (nI i3_4) 0)).toNatClampNeg)) C 1 rfl hn33 rfl dX7_versions_91 rfl ?_
              refine x_iconst (v := 1) (pc' := 93) C dX7_versions_92 rfl (by decide) ?_
              refine x_icmp_ne (tgt := 105) (pc' := 96) C dX7_versions_93 (by decide) rfl (fun c34 => ?_) (fun c34 => ?_)
              · rw [if_neg c34] at hRES
                replace hok := hok.2 c34
                refine x_iconst (v := 0) (pc' := 106) C dX7_versions_105 rfl (by decide) ?_
                refine x_iadd (pc' := 107) (v := (x2_4 + 0)) C dX7_versions_106 rfl rfl ?_
                refine x_istore_n (pc' := 108) (L' := [some (.ref h), some (.int a1), some (.int (x2_4 + 0)), some (.int (nI i3_4)), some (.int 1)]) C dX7_versions_107 rfl rfl (Nat.le_of_ble_eq_true rfl) rfl ?_
                refine x_iinc (pc' := 111) (v := (nI (i3_4 + 1))) (L' := [some (.ref h), some (.int a1), some (.int (x2_4 + 0)), some (.int (nI (i3_4 + 1))), some (.int 1)]) C dX7_versions_108 rfl rfl (nI_add i3_4 1) (Nat.le_of_ble_eq_true rfl) rfl ?_
                refine x_goto (tgt := 4) C dX7_versions_111 (by decide) ?_
                refine x_forget (L' := [some (.ref h), some (.int a1), some (.int (x2_4 + 0)), some (.int (nI (i3_4 + 1))), none]) [0, 1, 2, 3] rfl rfl ?_
                exact ih4 (x2_4 + 0) (i3_4 + 1) (by omega) (by omega) hRES hok
              · rw [if_pos c34] at hRES
                replace hok := hok.1 c34
                refine x_iload (pc' := 98) C dX7_versions_96 rfl rfl ?_
                refine x_if_eq (tgt := 105) (pc' := 101) C dX7_versions_98 (by decide) rfl (fun c35 => absurd c35 (by decide)) (fun c35 => ?_)
                refine x_iconst (v := 1) (pc' := 102) C dX7_versions_101 rfl (by decide) ?_
                refine x_goto (tgt := 106) C dX7_versions_102 (by decide) ?_
                refine x_iadd (pc' := 107) (v := (x2_4 + 1)) C dX7_versions_106 rfl rfl ?_
                refine x_istore_n (pc' := 108) (L' := [some (.ref h), some (.int a1), some (.int (x2_4 + 1)), some (.int (nI i3_4)), some (.int 1)]) C dX7_versions_107 rfl rfl (Nat.le_of_ble_eq_true rfl) rfl ?_
                refine x_iinc (pc' := 111) (v := (nI (i3_4 + 1))) (L' := [some (.ref h), some (.int a1), some (.int (x2_4 + 1)), some (.int (nI (i3_4 + 1))), some (.int 1)]) C dX7_versions_108 rfl rfl (nI_add i3_4 1) (Nat.le_of_ble_eq_true rfl) rfl ?_
                refine x_goto (tgt := 4) C dX7_versions_111 (by decide) ?_
                refine x_forget (L' := [some (.ref h), some (.int a1), some (.int (x2_4 + 1)), some (.int (nI (i3_4 + 1))), none]) [0, 1, 2, 3] rfl rfl ?_
                exact ih4 (x2_4 + 1) (i3_4 + 1) (by omega) (by omega) hRES hok
  exact loop4 25 0 0 (by omega) (by omega) hRES hok

def k_X7_madeOf_52 (x2_52 : Int32) : Int32 := x2_52
def ok_X7_madeOf_52 (x2_52 : Int32) : Prop := True
def l_X7_madeOf_4 (S : CS) (a1 : Int32) : Nat → Int32 → Nat → Int32
  | 0, _, _ => 0
  | n4 + 1, x2_4, i3_4 => (if i3_4 < 24 then (if ((S.2 0) ((f_X7_of (nI i3_4) 0)).toNatClampNeg) = 1 then (if ((S.2 0) ((f_X7_of (nI i3_4) 1)).toNatClampNeg) = a1 then (l_X7_madeOf_4 S a1 n4 (x2_4 + 1) (i3_4 + 1)) else (l_X7_madeOf_4 S a1 n4 (x2_4 + 0) (i3_4 + 1))) else (l_X7_madeOf_4 S a1 n4 (x2_4 + 0) (i3_4 + 1))) else (k_X7_madeOf_52 x2_4))
def ol_X7_madeOf_4 (S : CS) (a1 : Int32) : Nat → Int32 → Nat → Prop
  | 0, _, _ => True
  | n4 + 1, x2_4, i3_4 => ((i3_4 < 24 → (vp_in (f_X7_of (nI i3_4) 0) 318 ∧ ((((S.2 0) ((f_X7_of (nI i3_4) 0)).toNatClampNeg) = 1 → (vp_in (f_X7_of (nI i3_4) 1) 318 ∧ ((((S.2 0) ((f_X7_of (nI i3_4) 1)).toNatClampNeg) = a1 → (ol_X7_madeOf_4 S a1 n4 (x2_4 + 1) (i3_4 + 1))) ∧ (¬ ((S.2 0) ((f_X7_of (nI i3_4) 1)).toNatClampNeg) = a1 → (ol_X7_madeOf_4 S a1 n4 (x2_4 + 0) (i3_4 + 1)))))) ∧ (¬ ((S.2 0) ((f_X7_of (nI i3_4) 0)).toNatClampNeg) = 1 → (ol_X7_madeOf_4 S a1 n4 (x2_4 + 0) (i3_4 + 1)))))) ∧ (¬ (i3_4 < 24) → (ok_X7_madeOf_52 x2_4)))
def f_X7_madeOf (S : CS) (a1 : Int32) : Int32 := (l_X7_madeOf_4 S a1 24 0 1)
def o_X7_madeOf (S : CS) (a1 : Int32) : Prop := (ol_X7_madeOf_4 S a1 24 0 1)
set_option maxRecDepth 100000 in
set_option maxHeartbeats 8000000 in
theorem c_X7_madeOf (l : Launch) (g : GT) (h : Nat) (ad : Nat → Nat) (S : CS) (a1 : Int32) (hok : o_X7_madeOf S a1) : CR l yX7_madeOf (.code yX7_madeOf cX7_madeOf 4 (some .int)) 1 g [.ref h, .int a1] (wMo g h ad S) (some (.int (f_X7_madeOf S a1))) := by
  obtain ⟨RES, hRES⟩ : ∃ z, z = (f_X7_madeOf S a1) := ⟨_, rfl⟩
  rw [← hRES]
  unfold f_X7_madeOf at hRES
  unfold o_X7_madeOf at hok
  refine CRx.of (nL := 4) (ret := (some .int)) (own := RX7) (cc := cX7_madeOf) rfl (by decide) rfl (List.forall_mem_cons.mpr ⟨rfl, (List.forall_mem_cons.mpr ⟨rfl, (fun _ h => absurd h List.not_mem_nil)⟩)⟩) (Nat.le_of_ble_eq_true rfl) ?_
  intro k C hkl hkg
  subst hkl; subst hkg
  refine x_loc2 (L' := [some (.ref h), some (.int a1), none, none]) rfl ?_
  refine x_iconst (v := 0) (pc' := 1) C dX7_madeOf_0 rfl (by decide) ?_
  refine x_istore_n (pc' := 2) (L' := [some (.ref h), some (.int a1), some (.int 0), none]) C dX7_madeOf_1 rfl rfl (Nat.le_of_ble_eq_true rfl) rfl ?_
  refine x_iconst (v := 1) (pc' := 3) C dX7_madeOf_2 rfl (by decide) ?_
  refine x_istore_n (pc' := 4) (L' := [some (.ref h), some (.int a1), some (.int 0), some (.int 1)]) C dX7_madeOf_3 rfl rfl (Nat.le_of_ble_eq_true rfl) rfl ?_
  have cont52 : ∀ (x2_52 : Int32), RES = k_X7_madeOf_52 x2_52 → ok_X7_madeOf_52 x2_52 → X k 0 0 (wMo (kg k) h ad S) 52 [none, none, some (.int x2_52), none] [] := by
    intro x2_52 hRES hok
    unfold k_X7_madeOf_52 at hRES
    unfold ok_X7_madeOf_52 at hok
    refine x_iload_n (pc' := 53) C dX7_madeOf_52 rfl rfl rfl ?_
    exact x_iret C (Nat.zero_le _) (Nat.zero_le _) dX7_madeOf_53 (by rw [hRES])
  have loop4 : ∀ (n4 : Nat) (x2_4 : Int32) (i3_4 : Nat), i3_4 ≤ 24 → 24 < i3_4 + n4 → RES = l_X7_madeOf_4 S a1 n4 x2_4 i3_4 → ol_X7_madeOf_4 S a1 n4 x2_4 i3_4 → X k 0 0 (wMo (kg k) h ad S) 4 [some (.ref h), some (.int a1), some (.int x2_4), some (.int (nI i3_4))] [] := by
    intro n4
    induction n4 with
    | zero =>
      intro x2_4 i3_4 hb4 hf4 hRES hok
      omega
    | succ n4 ih4 =>
      intro x2_4 i3_4 hb4 hf4 hRES hok
      rw [l_X7_madeOf_4] at hRES
      rw [ol_X7_madeOf_4] at hok
      refine x_iload_n (pc' := 5) C dX7_madeOf_4 rfl rfl rfl ?_
      refine x_bipush (v := 24) (pc' := 7) C dX7_madeOf_5 rfl (by decide) ?_
      refine x_icmpN_ge (tgt := 52) (pc' := 10) C i3_4 24 dX7_madeOf_7 (by decide) rfl (by omega) (by omega) (fun c1 => ?_) (fun c1 => ?_)
      · rw [if_neg c1] at hRES
        replace hok := hok.2 c1
        refine x_forget (L' := [none, none, some (.int x2_4), none]) [2] rfl rfl ?_
        exact cont52 x2_4 hRES hok
      · rw [if_pos c1] at hRES
        replace hok := hok.1 c1
        refine x_iload_n (pc' := 11) C dX7_madeOf_10 rfl rfl rfl ?_
        refine x_aload_n (pc' := 12) C dX7_madeOf_11 rfl rfl rfl ?_
        refine x_get (pc' := 15) (v := .ref (ad 0)) C 0 0 inBX7 rfl rfl (by decide) fl_X7_7 rfl rfl dX7_madeOf_12 rfl ?_
        refine x_iload_n (pc' := 16) C dX7_madeOf_15 rfl rfl rfl ?_
        refine x_iconst (v := 0) (pc' := 17) C dX7_madeOf_16 rfl (by decide) ?_
        refine x_RS (st := [.ref (ad 0), .int x2_4]) (st2 := [.int (f_X7_of (nI i3_4) 0), .ref (ad 0), .int x2_4]) (pc' := 20) C (c_X7_of (kl k) (kg k) (nI i3_4) 0) cw_X7_32 ok_X7_of (by decide) [] rfl rfl rfl (Nat.le_of_ble_eq_true rfl) (Nat.zero_le _) (Nat.zero_le _) rfl dX7_madeOf_17 rfl rfl ?_
        obtain ⟨hn2, hok⟩ := hok
        refine x_iald (pc' := 21) (f := S.2 0) (v := ((S.2 0) ((f_X7_of (nI i3_4) 0)).toNatClampNeg)) C 1 rfl hn2 rfl dX7_madeOf_20 rfl ?_
        refine x_iconst (v := 1) (pc' := 22) C dX7_madeOf_21 rfl (by decide) ?_
        refine x_icmp_ne (tgt := 43) (pc' := 25) C dX7_madeOf_22 (by decide) rfl (fun c3 => ?_) (fun c3 => ?_)
        · rw [if_neg c3] at hRES
          replace hok := hok.2 c3
          refine x_iconst (v := 0) (pc' := 44) C dX7_madeOf_43 rfl (by decide) ?_
          refine x_iadd (pc' := 45) (v := (x2_4 + 0)) C dX7_madeOf_44 rfl rfl ?_
          refine x_istore_n (pc' := 46) (L' := [some (.ref h), some (.int a1), some (.int (x2_4 + 0)), some (.int (nI i3_4))]) C dX7_madeOf_45 rfl rfl (Nat.le_of_ble_eq_true rfl) rfl ?_
          refine x_iinc (pc' := 49) (v := (nI (i3_4 + 1))) (L' := [some (.ref h), some (.int a1), some (.int (x2_4 + 0)), some (.int (nI (i3_4 + 1)))]) C dX7_madeOf_46 rfl rfl (nI_add i3_4 1) (Nat.le_of_ble_eq_true rfl) rfl ?_
          refine x_goto (tgt := 4) C dX7_madeOf_49 (by decide) ?_
          exact ih4 (x2_4 + 0) (i3_4 + 1) (by omega) (by omega) hRES hok
        · rw [if_pos c3] at hRES
          replace hok := hok.1 c3
          refine x_aload_n (pc' := 26) C dX7_madeOf_25 rfl rfl rfl ?_
          refine x_get (pc' := 29) (v := .ref (ad 0)) C 0 0 inBX7 rfl rfl (by decide) fl_X7_7 rfl rfl dX7_madeOf_26 rfl ?_
          refine x_iload_n (pc' := 30) C dX7_madeOf_29 rfl rfl rfl ?_
          refine x_iconst (v := 1) (pc' := 31) C dX7_madeOf_30 rfl (by decide) ?_
          refine x_RS (st := [.ref (ad 0), .int x2_4]) (st2 := [.int (f_X7_of (nI i3_4) 1), .ref (ad 0), .int x2_4]) (pc' := 34) C (c_X7_of (kl k) (kg k) (nI i3_4) 1) cw_X7_32 ok_X7_of (by decide) [] rfl rfl rfl (Nat.le_of_ble_eq_true rfl) (Nat.zero_le _) (Nat.zero_le _) rfl dX7_madeOf_31 rfl rfl ?_
          obtain ⟨hn4, hok⟩ := hok
          refine x_iald (pc' := 35) (f := S.2 0) (v := ((S.2 0) ((f_X7_of (nI i3_4) 1)).toNatClampNeg)) C 1 rfl hn4 rfl dX7_madeOf_34 rfl ?_
          refine x_iload_n (pc' := 36) C dX7_madeOf_35 rfl rfl rfl ?_
          refine x_icmp_ne (tgt := 43) (pc' := 39) C dX7_madeOf_36 (by decide) rfl (fun c5 => ?_) (fun c5 => ?_)
          · rw [if_neg c5] at hRES
            replace hok := hok.2 c5
            refine x_iconst (v := 0) (pc' := 44) C dX7_madeOf_43 rfl (by decide) ?_
            refine x_iadd (pc' := 45) (v := (x2_4 + 0)) C dX7_madeOf_44 rfl rfl ?_
            refine x_istore_n (pc' := 46) (L' := [some (.ref h), some (.int a1), some (.int (x2_4 + 0)), some (.int (nI i3_4))]) C dX7_madeOf_45 rfl rfl (Nat.le_of_ble_eq_true rfl) rfl ?_
            refine x_iinc (pc' := 49) (v := (nI (i3_4 + 1))) (L' := [some (.ref h), some (.int a1), some (.int (x2_4 + 0)), some (.int (nI (i3_4 + 1)))]) C dX7_madeOf_46 rfl rfl (nI_add i3_4 1) (Nat.le_of_ble_eq_true rfl) rfl ?_
            refine x_goto (tgt := 4) C dX7_madeOf_49 (by decide) ?_
            exact ih4 (x2_4 + 0) (i3_4 + 1) (by omega) (by omega) hRES hok
          · rw [if_pos c5] at hRES
            replace hok := hok.1 c5
            refine x_iconst (v := 1) (pc' := 40) C dX7_madeOf_39 rfl (by decide) ?_
            refine x_goto (tgt := 44) C dX7_madeOf_40 (by decide) ?_
            refine x_iadd (pc' := 45) (v := (x2_4 + 1)) C dX7_madeOf_44 rfl rfl ?_
            refine x_istore_n (pc' := 46) (L' := [some (.ref h), some (.int a1), some (.int (x2_4 + 1)), some (.int (nI i3_4))]) C dX7_madeOf_45 rfl rfl (Nat.le_of_ble_eq_true rfl) rfl ?_
            refine x_iinc (pc' := 49) (v := (nI (i3_4 + 1))) (L' := [some (.ref h), some (.int a1), some (.int (x2_4 + 1)), some (.int (nI (i3_4 + 1)))]) C dX7_madeOf_46 rfl rfl (nI_add i3_4 1) (Nat.le_of_ble_eq_true rfl) rfl ?_
            refine x_goto (tgt := 4) C dX7_madeOf_49 (by decide) ?_
            exact ih4 (x2_4 + 1) (i3_4 + 1) (by omega) (by omega) hRES hok
  exact loop4 24 0 1 (by omega) (by omega) hRES hok

def k_X7_size_57 (x3_57 : Int32) : Int32 := x3_57
def ok_X7_size_57 (x3_57 : Int32) : Prop := True
def l_X7_size_11 (S : CS) (a1 : Int32) : Nat → Int32 → Nat → Int32
  | 0, _, _ => 0
  | n11 + 1, x3_11, i4_11 => (if i4_11 < 24 then (if ((S.2 0) ((f_X7_of (nI i4_11) 0)).toNatClampNeg) = 1 then (if (f_X7_top S (nI i4_11)) = (f_X7_top S a1) then (l_X7_size_11 S a1 n11 (x3_11 + 1) (i4_11 + 1)) else (l_X7_size_11 S a1 n11 (x3_11 + 0) (i4_11 + 1))) else (l_X7_size_11 S a1 n11 (x3_11 + 0) (i4_11 + 1))) else (k_X7_size_57 x3_11))
def ol_X7_size_11 (S : CS) (a1 : Int32) : Nat → Int32 → Nat → Prop
  | 0, _, _ => True
  | n11 + 1, x3_11, i4_11 => ((i4_11 < 24 → (vp_in (f_X7_of (nI i4_11) 0) 318 ∧ ((((S.2 0) ((f_X7_of (nI i4_11) 0)).toNatClampNeg) = 1 → ((o_X7_top S (nI i4_11)) ∧ (((f_X7_top S (nI i4_11)) = (f_X7_top S a1) → (ol_X7_size_11 S a1 n11 (x3_11 + 1) (i4_11 + 1))) ∧ (¬ (f_X7_top S (nI i4_11)) = (f_X7_top S a1) → (ol_X7_size_11 S a1 n11 (x3_11 + 0) (i4_11 + 1)))))) ∧ (¬ ((S.2 0) ((f_X7_of (nI i4_11) 0)).toNatClampNeg) = 1 → (ol_X7_size_11 S a1 n11 (x3_11 + 0) (i4_11 + 1)))))) ∧ (¬ (i4_11 < 24) → (ok_X7_size_57 x3_11)))
def f_X7_size (S : CS) (a1 : Int32) : Int32 := (l_X7_size_11 S a1 25 0 0)
def o_X7_size (S : CS) (a1 : Int32) : Prop := ((o_X7_top S a1) ∧ (ol_X7_size_11 S a1 25 0 0))
set_option maxRecDepth 100000 in
set_option maxHeartbeats 8000000 in
theorem c_X7_size (l : Launch) (g : GT) (h : Nat) (ad : Nat → Nat) (S : CS) (a1 : Int32) (hok : o_X7_size S a1) : CR l yX7_size (.code yX7_size cX7_size 5 (some .int)) 3 g [.ref h, .int a1] (wMo g h ad S) (some (.int (f_X7_size S a1))) := by
  obtain ⟨RES, hRES⟩ : ∃ z, z = (f_X7_size S a1) := ⟨_, rfl⟩
  rw [← hRES]
  unfold f_X7_size at hRES
  unfold o_X7_size at hok
  refine CRx.of (nL := 5) (ret := (some .int)) (own := RX7) (cc := cX7_size) rfl (by decide) rfl (List.forall_mem_cons.mpr ⟨rfl, (List.forall_mem_cons.mpr ⟨rfl, (fun _ h => absurd h List.not_mem_nil)⟩)⟩) (Nat.le_of_ble_eq_true rfl) ?_
  intro k C hkl hkg
  subst hkl; subst hkg
  refine x_loc2 (L' := [some (.ref h), some (.int a1), none, none, none]) rfl ?_
  refine x_aload_n (pc' := 1) C dX7_size_0 rfl rfl rfl ?_
  refine x_iload_n (pc' := 2) C dX7_size_1 rfl rfl rfl ?_
  obtain ⟨hn1, hok⟩ := hok
  refine x_RV (st := []) (st2 := [.int (f_X7_top S a1)]) (pc' := 5) C (c_X7_top (kl k) (kg k) h ad S a1 hn1) cw_X7_47 ok_X7_top rfl (by decide) 0 rfl rfl [0, 1, 2, 3, 4, 5, 6] rfl rfl rfl (Nat.le_of_ble_eq_true rfl) (Nat.zero_le _) (Nat.zero_le _) rfl dX7_size_2 rfl rfl ?_
  refine x_istore_n (pc' := 6) (L' := [some (.ref h), some (.int a1), some (.int (f_X7_top S a1)), none, none]) C dX7_size_5 rfl rfl (Nat.le_of_ble_eq_true rfl) rfl ?_
  refine x_iconst (v := 0) (pc' := 7) C dX7_size_6 rfl (by decide) ?_
  refine x_istore_n (pc' := 8) (L' := [some (.ref h), some (.int a1), some (.int (f_X7_top S a1)), some (.int 0), none]) C dX7_size_7 rfl rfl (Nat.le_of_ble_eq_true rfl) rfl ?_
  refine x_iconst (v := 0) (pc' := 9) C dX7_size_8 rfl (by decide) ?_
  refine x_istore (pc' := 11) (L' := [some (.ref h), some (.int a1), some (.int (f_X7_top S a1)), some (.int 0), some (.int 0)]) C dX7_size_9 rfl (Nat.le_of_ble_eq_true rfl) rfl ?_
  have cont57 : ∀ (x3_57 : Int32), RES = k_X7_size_57 x3_57 → ok_X7_size_57 x3_57 → X k 0 0 (wMo (kg k) h ad S) 57 [none, none, none, some (.int x3_57), none] [] := by
    intro x3_57 hRES hok
    unfold k_X7_size_57 at hRES
    unfold ok_X7_size_57 at hok
    refine x_iload_n (pc' := 58) C dX7_size_57 rfl rfl rfl ?_
    exact x_iret C (Nat.zero_le _) (Nat.zero_le _) dX7_size_58 (by rw [hRES])
  have loop11 : ∀ (n11 : Nat) (x3_11 : Int32) (i4_11 : Nat), i4_11 ≤ 24 → 24 < i4_11 + n11 → RES = l_X7_size_11 S a1 n11 x3_11 i4_11 → ol_X7_size_11 S a1 n11 x3_11 i4_11 → X k 0 0 (wMo (kg k) h ad S) 11 [some (.ref h), none, some (.int (f_X7_top S a1)), some (.int x3_11), some (.int (nI i4_11))] [] := by
    intro n11
    induction n11 with
    | zero =>
      intro x3_11 i4_11 hb11 hf11 hRES hok
      omega
    | succ n11 ih11 =>
      intro x3_11 i4_11 hb11 hf11 hRES hok
      rw [l_X7_size_11] at hRES
      rw [ol_X7_size_11] at hok
      refine x_iload (pc' := 13) C dX7_size_11 rfl rfl ?_
      refine x_bipush (v := 24) (pc' := 15) C dX7_size_13 rfl (by decide) ?_
      refine x_icmpN_ge (tgt := 57) (pc' := 18) C i4_11 24 dX7_size_15 (by decide) rfl (by omega) (by omega) (fun c2 => ?_) (fun c2 => ?_)
      · rw [if_neg c2] at hRES
        replace hok := hok.2 c2
        refine x_forget (L' := [none, none, none, some (.int x3_11), none]) [2] rfl rfl ?_
        exact cont57 x3_11 hRES hok
      · rw [if_pos c2] at hRES
        replace hok := hok.1 c2
        refine x_iload_n (pc' := 19) C dX7_size_18 rfl rfl rfl ?_
        refine x_aload_n (pc' := 20) C dX7_size_19 rfl rfl rfl ?_
        refine x_get (pc' := 23) (v := .ref (ad 0)) C 0 0 inBX7 rfl rfl (by decide) fl_X7_7 rfl rfl dX7_size_20 rfl ?_
        refine x_iload (pc' := 25) C dX7_size_23 rfl rfl ?_
        refine x_iconst (v := 0) (pc' := 26) C dX7_size_25 rfl (by decide) ?_
        refine x_RS (st := [.ref (ad 0), .int x3_11]) (st2 := [.int (f_X7_of (nI i4_11) 0), .ref (ad 0), .int x3_11]) (pc' := 29) C (c_X7_of (kl k) (kg k) (nI i4_11) 0) cw_X7_32 ok_X7_of (by decide) [] rfl rfl rfl (Nat.le_of_ble_eq_true rfl) (Nat.zero_le _) (Nat.zero_le _) rfl dX7_size_26 rfl rfl ?_
        obtain ⟨hn3, hok⟩ := hok
        refine x_iald (pc' := 30) (f := S.2 0) (v := ((S.2 0) ((f_X7_of (nI i4_11) 0)).toNatClampNeg)) C 1 rfl hn3 rfl dX7_size_29 rfl ?_
        refine x_iconst (v := 1) (pc' := 31) C dX7_size_30 rfl (by decide) ?_
        refine x_icmp_ne (tgt := 48) (pc' := 34) C dX7_size_31 (by decide) rfl (fun c4 => ?_) (fun c4 => ?_)
        · rw [if_neg c4] at hRES
          replace hok := hok.2 c4
          refine x_iconst (v := 0) (pc' := 49) C dX7_size_48 rfl (by decide) ?_
          refine x_iadd (pc' := 50) (v := (x3_11 + 0)) C dX7_size_49 rfl rfl ?_
          refine x_istore_n (pc' := 51) (L' := [some (.ref h), none, some (.int (f_X7_top S a1)), some (.int (x3_11 + 0)), some (.int (nI i4_11))]) C dX7_size_50 rfl rfl (Nat.le_of_ble_eq_true rfl) rfl ?_
          refine x_iinc (pc' := 54) (v := (nI (i4_11 + 1))) (L' := [some (.ref h), none, some (.int (f_X7_top S a1)), some (.int (x3_11 + 0)), some (.int (nI (i4_11 + 1)))]) C dX7_size_51 rfl rfl (nI_add i4_11 1) (Nat.le_of_ble_eq_true rfl) rfl ?_
          refine x_goto (tgt := 11) C dX7_size_54 (by decide) ?_
          exact ih11 (x3_11 + 0) (i4_11 + 1) (by omega) (by omega) hRES hok
        · rw [if_pos c4] at hRES
          replace hok := hok.1 c4
          refine x_aload_n (pc' := 35) C dX7_size_34 rfl rfl rfl ?_
          refine x_iload (pc' := 37) C dX7_size_35 rfl rfl ?_
          obtain ⟨hn5, hok⟩ := hok
          refine x_RV (st := [.int x3_11]) (st2 := [.int (f_X7_top S (nI i4_11)), .int x3_11]) (pc' := 40) C (c_X7_top (kl k) (kg k) h ad S (nI i4_11) hn5) cw_X7_47 ok_X7_top rfl (by decide) 0 rfl rfl [0, 1, 2, 3, 4, 5, 6] rfl rfl rfl (Nat.le_of_ble_eq_true rfl) (Nat.zero_le _) (Nat.zero_le _) rfl dX7_size_37 rfl rfl ?_
          refine x_iload_n (pc' := 41) C dX7_size_40 rfl rfl rfl ?_
          refine x_icmp_ne (tgt := 48) (pc' := 44) C dX7_size_41 (by decide) rfl (fun c6 => ?_) (fun c6 => ?_)
          · rw [if_neg c6] at hRES
            replace hok := hok.2 c6
            refine x_iconst (v := 0) (pc' := 49) C dX7_size_48 rfl (by decide) ?_
            refine x_iadd (pc' := 50) (v := (x3_11 + 0)) C dX7_size_49 rfl rfl ?_
            refine x_istore_n (pc' := 51) (L' := [some (.ref h), none, some (.int (f_X7_top S a1)), some (.int (x3_11 + 0)), some (.int (nI i4_11))]) C dX7_size_50 rfl rfl (Nat.le_of_ble_eq_true rfl) rfl ?_
            refine x_iinc (pc' := 54) (v := (nI (i4_11 + 1))) (L' := [some (.ref h), none, some (.int (f_X7_top S a1)), some (.int (x3_11 + 0)), some (.int (nI (i4_11 + 1)))]) C dX7_size_51 rfl rfl (nI_add i4_11 1) (Nat.le_of_ble_eq_true rfl) rfl ?_
            refine x_goto (tgt := 11) C dX7_size_54 (by decide) ?_
            exact ih11 (x3_11 + 0) (i4_11 + 1) (by omega) (by omega) hRES hok
          · rw [if_pos c6] at hRES
            replace hok := hok.1 c6
            refine x_iconst (v := 1) (pc' := 45) C dX7_size_44 rfl (by decide) ?_
            refine x_goto (tgt := 49) C dX7_size_45 (by decide) ?_
            refine x_iadd (pc' := 50) (v := (x3_11 + 1)) C dX7_size_49 rfl rfl ?_
            refine x_istore_n (pc' := 51) (L' := [some (.ref h), none, some (.int (f_X7_top S a1)), some (.int (x3_11 + 1)), some (.int (nI i4_11))]) C dX7_size_50 rfl rfl (Nat.le_of_ble_eq_true rfl) rfl ?_
            refine x_iinc (pc' := 54) (v := (nI (i4_11 + 1))) (L' := [some (.ref h), none, some (.int (f_X7_top S a1)), some (.int (x3_11 + 1)), some (.int (nI (i4_11 + 1)))]) C dX7_size_51 rfl rfl (nI_add i4_11 1) (Nat.le_of_ble_eq_true rfl) rfl ?_
            refine x_goto (tgt := 11) C dX7_size_54 (by decide) ?_
            exact ih11 (x3_11 + 1) (i4_11 + 1) (by omega) (by omega) hRES hok
  refine x_forget (L' := [some (.ref h), none, some (.int (f_X7_top S a1)), some (.int 0), some (.int 0)]) [0, 2, 3, 4] rfl rfl ?_
  exact loop11 25 0 0 (by omega) (by omega) hRES hok

def k_X7_room_101 (x1_101 : Int32) : Int32 := x1_101
def ok_X7_room_101 (x1_101 : Int32) : Prop := True
def l_X7_room_4 (S : CS) : Nat → Int32 → Nat → Int32
  | 0, _, _ => 0
  | n4 + 1, x1_4, i2_4 => (if i2_4 < 24 then (if ((S.2 0) ((f_X7_of (nI i2_4) 0)).toNatClampNeg) = 1 then (if ((S.2 0) ((f_X7_of (nI i2_4) 3)).toNatClampNeg) = 1 then (if (f_X7_hangs S (nI i2_4)) = true then (bind1 (f_X7_unlikeCells S (nI i2_4) ((S.2 0) ((f_X7_of (nI i2_4) 1)).toNatClampNeg)) (fun z21 => (l_X7_room_4 S n4 ((x1_4 + 8) + (1 + (2 * z21))) (i2_4 + 1)))) else (l_X7_room_4 S n4 ((x1_4 + 8) + 0) (i2_4 + 1))) else (if (f_X7_hangs S (nI i2_4)) = true then (bind1 (f_X7_unlikeCells S (nI i2_4) ((S.2 0) ((f_X7_of (nI i2_4) 1)).toNatClampNeg)) (fun z14 => (l_X7_room_4 S n4 ((x1_4 + 0) + (1 + (2 * z14))) (i2_4 + 1)))) else (l_X7_room_4 S n4 ((x1_4 + 0) + 0) (i2_4 + 1)))) else (l_X7_room_4 S n4 ((x1_4 + 0) + 0) (i2_4 + 1))) else (k_X7_room_101 x1_4))
def ol_X7_room_4 (S : CS) : Nat → Int32 → Nat → Prop
  | 0, _, _ => True
  | n4 + 1, x1_4, i2_4 => ((i2_4 < 24 → (vp_in (f_X7_of (nI i2_4) 0) 318 ∧ ((((S.2 0) ((f_X7_of (nI i2_4) 0)).toNatClampNeg) = 1 → (vp_in (f_X7_of (nI i2_4) 3) 318 ∧ ((((S.2 0) ((f_X7_of (nI i2_4) 3)).toNatClampNeg) = 1 → (vp_in (f_X7_of (nI i2_4) 0) 318 ∧ ((o_X7_hangs S (nI i2_4)) ∧ (((f_X7_hangs S (nI i2_4)) = true → (vp_in (f_X7_of (nI i2_4) 1) 318 ∧ ((o_X7_unlikeCells S (nI i2_4) ((S.2 0) ((f_X7_of (nI i2_4) 1)).toNatClampNeg)) ∧ (bind1 (f_X7_unlikeCells S (nI i2_4) ((S.2 0) ((f_X7_of (nI i2_4) 1)).toNatClampNeg)) (fun z21 => (ol_X7_room_4 S n4 ((x1_4 + 8) + (1 + (2 * z21))) (i2_4 + 1))))))) ∧ (¬ (f_X7_hangs S (nI i2_4)) = true → (ol_X7_room_4 S n4 ((x1_4 + 8) + 0) (i2_4 + 1))))))) ∧ (¬ ((S.2 0) ((f_X7_of (nI i2_4) 3)).toNatClampNeg) = 1 → (vp_in (f_X7_of (nI i2_4) 0) 318 ∧ ((o_X7_hangs S (nI i2_4)) ∧ (((f_X7_hangs S (nI i2_4)) = true → (vp_in (f_X7_of (nI i2_4) 1) 318 ∧ ((o_X7_unlikeCells S (nI i2_4) ((S.2 0) ((f_X7_of (nI i2_4) 1)).toNatClampNeg)) ∧ (bind1 (f_X7_unlikeCells S (nI i2_4) ((S.2 0) ((f_X7_of (nI i2_4) 1)).toNatClampNeg)) (fun z14 => (ol_X7_room_4 S n4 ((x1_4 + 0) + (1 + (2 * z14))) (i2_4 + 1))))))) ∧ (¬ (f_X7_hangs S (nI i2_4)) = true → (ol_X7_room_4 S n4 ((x1_4 + 0) + 0) (i2_4 + 1)))))))))) ∧ (¬ ((S.2 0) ((f_X7_of (nI i2_4) 0)).toNatClampNeg) = 1 → (vp_in (f_X7_of (nI i2_4) 0) 318 ∧ (ol_X7_room_4 S n4 ((x1_4 + 0) + 0) (i2_4 + 1))))))) ∧ (¬ (i2_4 < 24) → (ok_X7_room_101 x1_4)))
def f_X7_room (S : CS) : Int32 := (l_X7_room_4 S 25 0 0)
def o_X7_room (S : CS) : Prop := (ol_X7_room_4 S 25 0 0)
set_option maxRecDepth 100000 in
set_option maxHeartbeats 8000000 in
theorem c_X7_room (l : Launch) (g : GT) (h : Nat) (ad : Nat → Nat) (S : CS) (hok : o_X7_room S) : CR l yX7_room (.code yX7_room cX7_room 3 (some .int)) 2 g [.ref h] (wMo g h ad S) (some (.int (f_X7_room S))) := by
  obtain ⟨RES, hRES⟩ : ∃ z, z = (f_X7_room S) := ⟨_, rfl⟩
  rw [← hRES]
  unfold f_X7_room at hRES
  unfold o_X7_room at hok
  refine CRx.of (nL := 3) (ret := (some .int)) (own := RX7) (cc := cX7_room) rfl (by decide) rfl (List.forall_mem_cons.mpr ⟨rfl, (fun _ h => absurd h List.not_mem_nil)⟩) (Nat.le_of_ble_eq_true rfl) ?_
  intro k C hkl hkg
  subst hkl; subst hkg
  refine x_loc2 (L' := [some (.ref h), none, none]) rfl ?_
  refine x_iconst (v := 0) (pc' := 1) C dX7_room_0 rfl (by decide) ?_
  refine x_istore_n (pc' := 2) (L' := [some (.ref h), some (.int 0), none]) C dX7_room_1 rfl rfl (Nat.le_of_ble_eq_true rfl) rfl ?_
  refine x_iconst (v := 0) (pc' := 3) C dX7_room_2 rfl (by decide) ?_
  refine x_istore_n (pc' := 4) (L' := [some (.ref h), some (.int 0), some (.int 0)]) C dX7_room_3 rfl rfl (Nat.le_of_ble_eq_true rfl) rfl ?_
  have cont101 : ∀ (x1_101 : Int32), RES = k_X7_room_101 x1_101 → ok_X7_room_101 x1_101 → X k 0 0 (wMo (kg k) h ad S) 101 [none, some (.int x1_101), none] [] := by
    intro x1_101 hRES hok
    unfold k_X7_room_101 at hRES
    unfold ok_X7_room_101 at hok
    refine x_iload_n (pc' := 102) C dX7_room_101 rfl rfl rfl ?_
    exact x_iret C (Nat.zero_le _) (Nat.zero_le _) dX7_room_102 (by rw [hRES])
  have loop4 : ∀ (n4 : Nat) (x1_4 : Int32) (i2_4 : Nat), i2_4 ≤ 24 → 24 < i2_4 + n4 → RES = l_X7_room_4 S n4 x1_4 i2_4 → ol_X7_room_4 S n4 x1_4 i2_4 → X k 0 0 (wMo (kg k) h ad S) 4 [some (.ref h), some (.int x1_4), some (.int (nI i2_4))] [] := by
    intro n4
    induction n4 with
    | zero =>
      intro x1_4 i2_4 hb4 hf4 hRES hok
      omega
    | succ n4 ih4 =>
      intro x1_4 i2_4 hb4 hf4 hRES hok
      rw [l_X7_room_4] at hRES
      rw [ol_X7_room_4] at hok
      refine x_iload_n (pc' := 5) C dX7_room_4 rfl rfl rfl ?_
      refine x_bipush (v := 24) (pc' := 7) C dX7_room_5 rfl (by decide) ?_
      refine x_icmpN_ge (tgt := 101) (pc' := 10) C i2_4 24 dX7_room_7 (by decide) rfl (by omega) (by omega) (fun c1 => ?_) (fun c1 => ?_)
      · rw [if_neg c1] at hRES
        replace hok := hok.2 c1
        refine x_forget (L' := [none, some (.int x1_4), none]) [1] rfl rfl ?_
        exact cont101 x1_4 hRES hok
      · rw [if_pos c1] at hRES
        replace hok := hok.1 c1
        refine x_iload_n (pc' := 11) C dX7_room_10 rfl rfl rfl ?_
        refine x_aload_n (pc' := 12) C dX7_room_11 rfl rfl rfl ?_
        refine x_get (pc' := 15) (v := .ref (ad 0)) C 0 0 inBX7 rfl rfl (by decide) fl_X7_7 rfl rfl dX7_room_12 rfl ?_
        refine x_iload_n (pc' := 16) C dX7_room_15 rfl rfl rfl ?_
        refine x_iconst (v := 0) (pc' := 17) C dX7_room_16 rfl (by decide) ?_
        refine x_RS (st := [.ref (ad 0), .int x1_4]) (st2 := [.int (f_X7_of (nI i2_4) 0), .ref (ad 0), .int x1_4]) (pc' := 20) C (c_X7_of (kl k) (kg k) (nI i2_4) 0) cw_X7_32 ok_X7_of (by decide) [] rfl rfl rfl (Nat.le_of_ble_eq_true rfl) (Nat.zero_le _) (Nat.zero_le _) rfl dX7_room_17 rfl rfl ?_
        obtain ⟨hn2, hok⟩ := hok
        refine x_iald (pc' := 21) (f := S.2 0) (v := ((S.2 0) ((f_X7_of (nI i2_4) 0)).toNatClampNeg)) C 1 rfl hn2 rfl dX7_room_20 rfl ?_
        refine x_iconst (v := 1) (pc' := 22) C dX7_room_21 rfl (by decide) ?_
        refine x_icmp_ne (tgt := 44) (pc' := 25) C dX7_room_22 (by decide) rfl (fun c3 => ?_) (fun c3 => ?_)
        · rw [if_neg c3] at hRES
          replace hok := hok.2 c3
          refine x_iconst (v := 0) (pc' := 45) C dX7_room_44 rfl (by decide) ?_
          refine x_iadd (pc' := 46) (v := (x1_4 + 0)) C dX7_room_45 rfl rfl ?_
          refine x_istore_n (pc' := 47) (L' := [some (.ref h), some (.int (x1_4 + 0)), some (.int (nI i2_4))]) C dX7_room_46 rfl rfl (Nat.le_of_ble_eq_true rfl) rfl ?_
          refine x_iload_n (pc' := 48) C dX7_room_47 rfl rfl rfl ?_
          refine x_aload_n (pc' := 49) C dX7_room_48 rfl rfl rfl ?_
          refine x_get (pc' := 52) (v := .ref (ad 0)) C 0 0 inBX7 rfl rfl (by decide) fl_X7_7 rfl rfl dX7_room_49 rfl ?_
          refine x_iload_n (pc' := 53) C dX7_room_52 rfl rfl rfl ?_
          refine x_iconst (v := 0) (pc' := 54) C dX7_room_53 rfl (by decide) ?_
          refine x_RS (st := [.ref (ad 0), .int (x1_4 + 0)]) (st2 := [.int (f_X7_of (nI i2_4) 0), .ref (ad 0), .int (x1_4 + 0)]) (pc' := 57) C (c_X7_of (kl k) (kg k) (nI i2_4) 0) cw_X7_32 ok_X7_of (by decide) [] rfl rfl rfl (Nat.le_of_ble_eq_true rfl) (Nat.zero_le _) (Nat.zero_le _) rfl dX7_room_54 rfl rfl ?_
          obtain ⟨hn4, hok⟩ := hok
          refine x_iald (pc' := 58) (f := S.2 0) (v := ((S.2 0) ((f_X7_of (nI i2_4) 0)).toNatClampNeg)) C 1 rfl hn4 rfl dX7_room_57 rfl ?_
          refine x_iconst (v := 1) (pc' := 59) C dX7_room_58 rfl (by decide) ?_
          refine x_icmp_ne (tgt := 92) (pc' := 62) C dX7_room_59 (by decide) rfl (fun c5 => ?_) (fun c5 => ?_)
          · refine x_iconst (v := 0) (pc' := 93) C dX7_room_92 rfl (by decide) ?_
            refine x_iadd (pc' := 94) (v := ((x1_4 + 0) + 0)) C dX7_room_93 rfl rfl ?_
            refine x_istore_n (pc' := 95) (L' := [some (.ref h), some (.int ((x1_4 + 0) + 0)), some (.int (nI i2_4))]) C dX7_room_94 rfl rfl (Nat.le_of_ble_eq_true rfl) rfl ?_
            refine x_iinc (pc' := 98) (v := (nI (i2_4 + 1))) (L' := [some (.ref h), some (.int ((x1_4 + 0) + 0)), some (.int (nI (i2_4 + 1)))]) C dX7_room_95 rfl rfl (nI_add i2_4 1) (Nat.le_of_ble_eq_true rfl) rfl ?_
            refine x_goto (tgt := 4) C dX7_room_98 (by decide) ?_
            exact ih4 ((x1_4 + 0) + 0) (i2_4 + 1) (by omega) (by omega) hRES hok
          · exact absurd c5 c3
        · rw [if_pos c3] at hRES
          replace hok := hok.1 c3
          refine x_aload_n (pc' := 26) C dX7_room_25 rfl rfl rfl ?_
          refine x_get (pc' := 29) (v := .ref (ad 0)) C 0 0 inBX7 rfl rfl (by decide) fl_X7_7 rfl rfl dX7_room_26 rfl ?_
          refine x_iload_n (pc' := 30) C dX7_room_29 rfl rfl rfl ?_
          refine x_iconst (v := 3) (pc' := 31) C dX7_room_30 rfl (by decide) ?_
          refine x_RS (st := [.ref (ad 0), .int x1_4]) (st2 := [.int (f_X7_of (nI i2_4) 3), .ref (ad 0), .int x1_4]) (pc' := 34) C (c_X7_of (kl k) (kg k) (nI i2_4) 3) cw_X7_32 ok_X7_of (by decide) [] rfl rfl rfl (Nat.le_of_ble_eq_true rfl) (Nat.zero_le _) (Nat.zero_le _) rfl dX7_room_31 rfl rfl ?_
          obtain ⟨hn6, hok⟩ := hok
          refine x_iald (pc' := 35) (f := S.2 0) (v := ((S.2 0) ((f_X7_of (nI i2_4) 3)).toNatClampNeg)) C 1 rfl hn6 rfl dX7_room_34 rfl ?_
          refine x_iconst (v := 1) (pc' := 36) C dX7_room_35 rfl (by decide) ?_
          refine x_icmp_ne (tgt := 44) (pc' := 39) C dX7_room_36 (by decide) rfl (fun c7 => ?_) (fun c7 => ?_)
          · rw [if_neg c7] at hRES
            replace hok := hok.2 c7
            refine x_iconst (v := 0) (pc' := 45) C dX7_room_44 rfl (by decide) ?_
            refine x_iadd (pc' := 46) (v := (x1_4 + 0)) C dX7_room_45 rfl rfl ?_
            refine x_istore_n (pc' := 47) (L' := [some (.ref h), some (.int (x1_4 + 0)), some (.int (nI i2_4))]) C dX7_room_46 rfl rfl (Nat.le_of_ble_eq_true rfl) rfl ?_
            refine x_iload_n (pc' := 48) C dX7_room_47 rfl rfl rfl ?_
            refine x_aload_n (pc' := 49) C dX7_room_48 rfl rfl rfl ?_
            refine x_get (pc' := 52) (v := .ref (ad 0)) C 0 0 inBX7 rfl rfl (by decide) fl_X7_7 rfl rfl dX7_room_49 rfl ?_
            refine x_iload_n (pc' := 53) C dX7_room_52 rfl rfl rfl ?_
            refine x_iconst (v := 0) (pc' := 54) C dX7_room_53 rfl (by decide) ?_
            refine x_RS (st := [.ref (ad 0), .int (x1_4 + 0)]) (st2 := [.int (f_X7_of (nI i2_4) 0), .ref (ad 0), .int (x1_4 + 0)]) (pc' := 57) C (c_X7_of (kl k) (kg k) (nI i2_4) 0) cw_X7_32 ok_X7_of (by decide) [] rfl rfl rfl (Nat.le_of_ble_eq_true rfl) (Nat.zero_le _) (Nat.zero_le _) rfl dX7_room_54 rfl rfl ?_
            obtain ⟨hn8, hok⟩ := hok
            refine x_iald (pc' := 58) (f := S.2 0) (v := ((S.2 0) ((f_X7_of (nI i2_4) 0)).toNatClampNeg)) C 1 rfl hn8 rfl dX7_room_57 rfl ?_
            refine x_iconst (v := 1) (pc' := 59) C dX7_room_58 rfl (by decide) ?_
            refine x_icmp_ne (tgt := 92) (pc' := 62) C dX7_room_59 (by decide) rfl (fun c9 => ?_) (fun c9 => ?_)
            · exact absurd c3 c9
            · refine x_aload_n (pc' := 63) C dX7_room_62 rfl rfl rfl ?_
              refine x_iload_n (pc' := 64) C dX7_room_63 rfl rfl rfl ?_
              obtain ⟨hn10, hok⟩ := hok
              refine x_RV (st := [.int (x1_4 + 0)]) (st2 := [.int (bI (f_X7_hangs S (nI i2_4))), .int (x1_4 + 0)]) (pc' := 67) C (c_X7_hangs (kl k) (kg k) h ad S (nI i2_4) hn10) cw_X7_43 ok_X7_hangs rfl (by decide) 0 rfl rfl [0, 1, 2, 3, 4, 5, 6] rfl rfl rfl (Nat.le_of_ble_eq_true rfl) (Nat.zero_le _) (Nat.zero_le _) rfl dX7_room_64 rfl rfl ?_
              refine x_ifB_eq (tgt := 92) (pc' := 70) C dX7_room_67 (by decide) rfl (fun c11 => ?_) (fun c11 => ?_)
              · rw [if_neg c11] at hRES
                replace hok := hok.2 c11
                refine x_iconst (v := 0) (pc' := 93) C dX7_room_92 rfl (by decide) ?_
                refine x_iadd (pc' := 94) (v := ((x1_4 + 0) + 0)) C dX7_room_93 rfl rfl ?_
                refine x_istore_n (pc' := 95) (L' := [some (.ref h), some (.int ((x1_4 + 0) + 0)), some (.int (nI i2_4))]) C dX7_room_94 rfl rfl (Nat.le_of_ble_eq_true rfl) rfl ?_
                refine x_iinc (pc' := 98) (v := (nI (i2_4 + 1))) (L' := [some (.ref h), some (.int ((x1_4 + 0) + 0)), some (.int (nI (i2_4 + 1)))]) C dX7_room_95 rfl rfl (nI_add i2_4 1) (Nat.le_of_ble_eq_true rfl) rfl ?_
                refine x_goto (tgt := 4) C dX7_room_98 (by decide) ?_
                exact ih4 ((x1_4 + 0) + 0) (i2_4 + 1) (by omega) (by omega) hRES hok
              · rw [if_pos c11] at hRES
                replace hok := hok.1 c11
                refine x_iconst (v := 1) (pc' := 71) C dX7_room_70 rfl (by decide) ?_
                refine x_iconst (v := 2) (pc' := 72) C dX7_room_71 rfl (by decide) ?_
                refine x_aload_n (pc' := 73) C dX7_room_72 rfl rfl rfl ?_
                refine x_iload_n (pc' := 74) C dX7_room_73 rfl rfl rfl ?_
                refine x_aload_n (pc' := 75) C dX7_room_74 rfl rfl rfl ?_
                refine x_get (pc' := 78) (v := .ref (ad 0)) C 0 0 inBX7 rfl rfl (by decide) fl_X7_7 rfl rfl dX7_room_75 rfl ?_
                refine x_iload_n (pc' := 79) C dX7_room_78 rfl rfl rfl ?_
                refine x_iconst (v := 1) (pc' := 80) C dX7_room_79 rfl (by decide) ?_
                refine x_RS (st := [.ref (ad 0), .int (nI i2_4), .ref h, .int 2, .int 1, .int (x1_4 + 0)]) (st2 := [.int (f_X7_of (nI i2_4) 1), .ref (ad 0), .int (nI i2_4), .ref h, .int 2, .int 1, .int (x1_4 + 0)]) (pc' := 83) C (c_X7_of (kl k) (kg k) (nI i2_4) 1) cw_X7_32 ok_X7_of (by decide) [] rfl rfl rfl (Nat.le_of_ble_eq_true rfl) (Nat.zero_le _) (Nat.zero_le _) rfl dX7_room_80 rfl rfl ?_
                obtain ⟨hn12, hok⟩ := hok
                refine x_iald (pc' := 84) (f := S.2 0) (v := ((S.2 0) ((f_X7_of (nI i2_4) 1)).toNatClampNeg)) C 1 rfl hn12 rfl dX7_room_83 rfl ?_
                obtain ⟨hn13, hok⟩ := hok
                obtain ⟨z14, ez14⟩ : ∃ z, z = (f_X7_unlikeCells S (nI i2_4) ((S.2 0) ((f_X7_of (nI i2_4) 1)).toNatClampNeg)) := ⟨_, rfl⟩
                replace hRES := bd hRES z14 ez14
                replace hok := bdP hok z14 ez14
                have hc := c_X7_unlikeCells (kl k) (kg k) h ad S (nI i2_4) ((S.2 0) ((f_X7_of (nI i2_4) 1)).toNatClampNeg) hn13
                rw [← ez14] at hc
                refine x_RV (st := [.int 2, .int 1, .int (x1_4 + 0)]) (st2 := [.int z14, .int 2, .int 1, .int (x1_4 + 0)]) (pc' := 87) C hc cw_X7_61 ok_X7_unlikeCells rfl (by decide) 0 rfl rfl [0, 1, 2, 3, 4, 5, 6] rfl rfl rfl (Nat.le_of_ble_eq_true rfl) (Nat.zero_le _) (Nat.zero_le _) rfl dX7_room_84 rfl rfl ?_
                refine x_imul (pc' := 88) (v := (2 * z14)) C dX7_room_87 rfl rfl ?_
                refine x_iadd (pc' := 89) (v := (1 + (2 * z14))) C dX7_room_88 rfl rfl ?_
                refine x_goto (tgt := 93) C dX7_room_89 (by decide) ?_
                refine x_iadd (pc' := 94) (v := ((x1_4 + 0) + (1 + (2 * z14)))) C dX7_room_93 rfl rfl ?_
                refine x_istore_n (pc' := 95) (L' := [some (.ref h), some (.int ((x1_4 + 0) + (1 + (2 * z14)))), some (.int (nI i2_4))]) C dX7_room_94 rfl rfl (Nat.le_of_ble_eq_true rfl) rfl ?_
                refine x_iinc (pc' := 98) (v := (nI (i2_4 + 1))) (L' := [some (.ref h), some (.int ((x1_4 + 0) + (1 + (2 * z14)))), some (.int (nI (i2_4 + 1)))]) C dX7_room_95 rfl rfl (nI_add i2_4 1) (Nat.le_of_ble_eq_true rfl) rfl ?_
                refine x_goto (tgt := 4) C dX7_room_98 (by decide) ?_
                exact ih4 ((x1_4 + 0) + (1 + (2 * z14))) (i2_4 + 1) (by omega) (by omega) hRES hok
          · rw [if_pos c7] at hRES
            replace hok := hok.1 c7
            refine x_bipush (v := 8) (pc' := 41) C dX7_room_39 rfl (by decide) ?_
            refine x_goto (tgt := 45) C dX7_room_41 (by decide) ?_
            refine x_iadd (pc' := 46) (v := (x1_4 + 8)) C dX7_room_45 rfl rfl ?_
            refine x_istore_n (pc' := 47) (L' := [some (.ref h), some (.int (x1_4 + 8)), some (.int (nI i2_4))]) C dX7_room_46 rfl rfl (Nat.le_of_ble_eq_true rfl) rfl ?_
            refine x_iload_n (pc' := 48) C dX7_room_47 rfl rfl rfl ?_
            refine x_aload_n (pc' := 49) C dX7_room_48 rfl rfl rfl ?_
            refine x_get (pc' := 52) (v := .ref (ad 0)) C 0 0 inBX7 rfl rfl (by decide) fl_X7_7 rfl rfl dX7_room_49 rfl ?_
            refine x_iload_n (pc' := 53) C dX7_room_52 rfl rfl rfl ?_
            refine x_iconst (v := 0) (pc' := 54) C dX7_room_53 rfl (by decide) ?_
            refine x_RS (st := [.ref (ad 0), .int (x1_4 + 8)]) (st2 := [.int (f_X7_of (nI i2_4) 0), .ref (ad 0), .int (x1_4 + 8)]) (pc' := 57) C (c_X7_of (kl k) (kg k) (nI i2_4) 0) cw_X7_32 ok_X7_of (by decide) [] rfl rfl rfl (Nat.le_of_ble_eq_true rfl) (Nat.zero_le _) (Nat.zero_le _) rfl dX7_room_54 rfl rfl ?_
            obtain ⟨hn15, hok⟩ := hok
            refine x_iald (pc' := 58) (f := S.2 0) (v := ((S.2 0) ((f_X7_of (nI i2_4) 0)).toNatClampNeg)) C 1 rfl hn15 rfl dX7_room_57 rfl ?_
            refine x_iconst (v := 1) (pc' := 59) C dX7_room_58 rfl (by decide) ?_
            refine x_icmp_ne (tgt := 92) (pc' := 62) C dX7_room_59 (by decide) rfl (fun c16 => ?_) (fun c16 => ?_)
            · exact absurd c3 c16
            · refine x_aload_n (pc' := 63) C dX7_room_62 rfl rfl rfl ?_
              refine x_iload_n (pc' := 64) C dX7_room_63 rfl rfl rfl ?_
              obtain ⟨hn17, hok⟩ := hok
              refine x_RV (st := [.int (x1_4 + 8)]) (st2 := [.int (bI (f_X7_hangs S (nI i2_4))), .int (x1_4 + 8)]) (pc' := 67) C (c_X7_hangs (kl k) (kg k) h ad S (nI i2_4) hn17) cw_X7_43 ok_X7_hangs rfl (by decide) 0 rfl rfl [0, 1, 2, 3, 4, 5, 6] rfl rfl rfl (Nat.le_of_ble_eq_true rfl) (Nat.zero_le _) (Nat.zero_le _) rfl dX7_room_64 rfl rfl ?_
              refine x_ifB_eq (tgt := 92) (pc' := 70) C dX7_room_67 (by decide) rfl (fun c18 => ?_) (fun c18 => ?_)
              · rw [if_neg c18] at hRES
                replace hok := hok.2 c18
                refine x_iconst (v := 0) (pc' := 93) C dX7_room_92 rfl (by decide) ?_
                refine x_iadd (pc' := 94) (v := ((x1_4 + 8) + 0)) C dX7_room_93 rfl rfl ?_
                refine x_istore_n (pc' := 95) (L' := [some (.ref h), some (.int ((x1_4 + 8) + 0)), some (.int (nI i2_4))]) C dX7_room_94 rfl rfl (Nat.le_of_ble_eq_true rfl) rfl ?_
                refine x_iinc (pc' := 98) (v := (nI (i2_4 + 1))) (L' := [some (.ref h), some (.int ((x1_4 + 8) + 0)), some (.int (nI (i2_4 + 1)))]) C dX7_room_95 rfl rfl (nI_add i2_4 1) (Nat.le_of_ble_eq_true rfl) rfl ?_
                refine x_goto (tgt := 4) C dX7_room_98 (by decide) ?_
                exact ih4 ((x1_4 + 8) + 0) (i2_4 + 1) (by omega) (by omega) hRES hok
              · rw [if_pos c18] at hRES
                replace hok := hok.1 c18
                refine x_iconst (v := 1) (pc' := 71) C dX7_room_70 rfl (by decide) ?_
                refine x_iconst (v := 2) (pc' := 72) C dX7_room_71 rfl (by decide) ?_
                refine x_aload_n (pc' := 73) C dX7_room_72 rfl rfl rfl ?_
                refine x_iload_n (pc' := 74) C dX7_room_73 rfl rfl rfl ?_
                refine x_aload_n (pc' := 75) C dX7_room_74 rfl rfl rfl ?_
                refine x_get (pc' := 78) (v := .ref (ad 0)) C 0 0 inBX7 rfl rfl (by decide) fl_X7_7 rfl rfl dX7_room_75 rfl ?_
                refine x_iload_n (pc' := 79) C dX7_room_78 rfl rfl rfl ?_
                refine x_iconst (v := 1) (pc' := 80) C dX7_room_79 rfl (by decide) ?_
                refine x_RS (st := [.ref (ad 0), .int (nI i2_4), .ref h, .int 2, .int 1, .int (x1_4 + 8)]) (st2 := [.int (f_X7_of (nI i2_4) 1), .ref (ad 0), .int (nI i2_4), .ref h, .int 2, .int 1, .int (x1_4 + 8)]) (pc' := 83) C (c_X7_of (kl k) (kg k) (nI i2_4) 1) cw_X7_32 ok_X7_of (by decide) [] rfl rfl rfl (Nat.le_of_ble_eq_true rfl) (Nat.zero_le _) (Nat.zero_le _) rfl dX7_room_80 rfl rfl ?_
                obtain ⟨hn19, hok⟩ := hok
                refine x_iald (pc' := 84) (f := S.2 0) (v := ((S.2 0) ((f_X7_of (nI i2_4) 1)).toNatClampNeg)) C 1 rfl hn19 rfl dX7_room_83 rfl ?_
                obtain ⟨hn20, hok⟩ := hok
                obtain ⟨z21, ez21⟩ : ∃ z, z = (f_X7_unlikeCells S (nI i2_4) ((S.2 0) ((f_X7_of (nI i2_4) 1)).toNatClampNeg)) := ⟨_, rfl⟩
                replace hRES := bd hRES z21 ez21
                replace hok := bdP hok z21 ez21
                have hc := c_X7_unlikeCells (kl k) (kg k) h ad S (nI i2_4) ((S.2 0) ((f_X7_of (nI i2_4) 1)).toNatClampNeg) hn20
                rw [← ez21] at hc
                refine x_RV (st := [.int 2, .int 1, .int (x1_4 + 8)]) (st2 := [.int z21, .int 2, .int 1, .int (x1_4 + 8)]) (pc' := 87) C hc cw_X7_61 ok_X7_unlikeCells rfl (by decide) 0 rfl rfl [0, 1, 2, 3, 4, 5, 6] rfl rfl rfl (Nat.le_of_ble_eq_true rfl) (Nat.zero_le _) (Nat.zero_le _) rfl dX7_room_84 rfl rfl ?_
                refine x_imul (pc' := 88) (v := (2 * z21)) C dX7_room_87 rfl rfl ?_
                refine x_iadd (pc' := 89) (v := (1 + (2 * z21))) C dX7_room_88 rfl rfl ?_
                refine x_goto (tgt := 93) C dX7_room_89 (by decide) ?_
                refine x_iadd (pc' := 94) (v := ((x1_4 + 8) + (1 + (2 * z21)))) C dX7_room_93 rfl rfl ?_
                refine x_istore_n (pc' := 95) (L' := [some (.ref h), some (.int ((x1_4 + 8) + (1 + (2 * z21)))), some (.int (nI i2_4))]) C dX7_room_94 rfl rfl (Nat.le_of_ble_eq_true rfl) rfl ?_
                refine x_iinc (pc' := 98) (v := (nI (i2_4 + 1))) (L' := [some (.ref h), some (.int ((x1_4 + 8) + (1 + (2 * z21)))), some (.int (nI (i2_4 + 1)))]) C dX7_room_95 rfl rfl (nI_add i2_4 1) (Nat.le_of_ble_eq_true rfl) rfl ?_
                refine x_goto (tgt := 4) C dX7_room_98 (by decide) ?_
                exact ih4 ((x1_4 + 8) + (1 + (2 * z21))) (i2_4 + 1) (by omega) (by omega) hRES hok
  exact loop4 25 0 0 (by omega) (by omega) hRES hok

def k_X7_free_29 : Int32 := (-5)
def ok_X7_free_29 : Prop := True
def l_X7_free_2 (S : CS) : Nat → Nat → Int32
  | 0, _ => 0
  | n2 + 1, i1_2 => (if i1_2 < 24 then (if ((S.2 0) ((f_X7_of (nI i1_2) 0)).toNatClampNeg) = 0 then (nI i1_2) else (l_X7_free_2 S n2 (i1_2 + 1))) else (k_X7_free_29))
def ol_X7_free_2 (S : CS) : Nat → Nat → Prop
  | 0, _ => True
  | n2 + 1, i1_2 => ((i1_2 < 24 → (vp_in (f_X7_of (nI i1_2) 0) 318 ∧ ((((S.2 0) ((f_X7_of (nI i1_2) 0)).toNatClampNeg) = 0 → True) ∧ (¬ ((S.2 0) ((f_X7_of (nI i1_2) 0)).toNatClampNeg) = 0 → (ol_X7_free_2 S n2 (i1_2 + 1)))))) ∧ (¬ (i1_2 < 24) → (ok_X7_free_29)))
def f_X7_free (S : CS) : Int32 := (l_X7_free_2 S 25 0)
def o_X7_free (S : CS) : Prop := (ol_X7_free_2 S 25 0)
set_option maxRecDepth 100000 in
set_option maxHeartbeats 8000000 in
theorem c_X7_free (l : Launch) (g : GT) (h : Nat) (ad : Nat → Nat) (S : CS) (hok : o_X7_free S) : CR l yX7_free (.code yX7_free cX7_free 2 (some .int)) 1 g [.ref h] (wMo g h ad S) (some (.int (f_X7_free S))) := by
  obtain ⟨RES, hRES⟩ : ∃ z, z = (f_X7_free S) := ⟨_, rfl⟩
  rw [← hRES]
  unfold f_X7_free at hRES
  unfold o_X7_free at hok
  refine CRx.of (nL := 2) (ret := (some .int)) (own := RX7) (cc := cX7_free) rfl (by decide) rfl (List.forall_mem_cons.mpr ⟨rfl, (fun _ h => absurd h List.not_mem_nil)⟩) (Nat.le_of_ble_eq_true rfl) ?_
  intro k C hkl hkg
  subst hkl; subst hkg
  refine x_loc2 (L' := [some (.ref h), none]) rfl ?_
  refine x_iconst (v := 0) (pc' := 1) C dX7_free_0 rfl (by decide) ?_
  refine x_istore_n (pc' := 2) (L' := [some (.ref h), some (.int 0)]) C dX7_free_1 rfl rfl (Nat.le_of_ble_eq_true rfl) rfl ?_
  have cont29 : ∀ (_ : Unit), RES = k_X7_free_29 → ok_X7_free_29 → X k 0 0 (wMo (kg k) h ad S) 29 [none, none] [] := by
    intro _ hRES hok
    unfold k_X7_free_29 at hRES
    unfold ok_X7_free_29 at hok
    refine x_bipush (v := (-5)) (pc' := 31) C dX7_free_29 rfl (by decide) ?_
    exact x_iret C (Nat.zero_le _) (Nat.zero_le _) dX7_free_31 (by rw [hRES])
  have loop2 : ∀ (n2 : Nat) (i1_2 : Nat), i1_2 ≤ 24 → 24 < i1_2 + n2 → RES = l_X7_free_2 S n2 i1_2 → ol_X7_free_2 S n2 i1_2 → X k 0 0 (wMo (kg k) h ad S) 2 [some (.ref h), some (.int (nI i1_2))] [] := by
    intro n2
    induction n2 with
    | zero =>
      intro i1_2 hb2 hf2 hRES hok
      omega
    | succ n2 ih2 =>
      intro i1_2 hb2 hf2 hRES hok
      rw [l_X7_free_2] at hRES
      rw [ol_X7_free_2] at hok
      refine x_iload_n (pc' := 3) C dX7_free_2 rfl rfl rfl ?_
      refine x_bipush (v := 24) (pc' := 5) C dX7_free_3 rfl (by decide) ?_
      refine x_icmpN_ge (tgt := 29) (pc' := 8) C i1_2 24 dX7_free_5 (by decide) rfl (by omega) (by omega) (fun c1 => ?_) (fun c1 => ?_)
      · rw [if_neg c1] at hRES
        replace hok := hok.2 c1
        refine x_forget (L' := [none, none]) [] rfl rfl ?_
        exact cont29 () hRES hok
      · rw [if_pos c1] at hRES
        replace hok := hok.1 c1
        refine x_aload_n (pc' := 9) C dX7_free_8 rfl rfl rfl ?_
        refine x_get (pc' := 12) (v := .ref (ad 0)) C 0 0 inBX7 rfl rfl (by decide) fl_X7_7 rfl rfl dX7_free_9 rfl ?_
        refine x_iload_n (pc' := 13) C dX7_free_12 rfl rfl rfl ?_
        refine x_iconst (v := 0) (pc' := 14) C dX7_free_13 rfl (by decide) ?_
        refine x_RS (st := [.ref (ad 0)]) (st2 := [.int (f_X7_of (nI i1_2) 0), .ref (ad 0)]) (pc' := 17) C (c_X7_of (kl k) (kg k) (nI i1_2) 0) cw_X7_32 ok_X7_of (by decide) [] rfl rfl rfl (Nat.le_of_ble_eq_true rfl) (Nat.zero_le _) (Nat.zero_le _) rfl dX7_free_14 rfl rfl ?_
        obtain ⟨hn2, hok⟩ := hok
        refine x_iald (pc' := 18) (f := S.2 0) (v := ((S.2 0) ((f_X7_of (nI i1_2) 0)).toNatClampNeg)) C 1 rfl hn2 rfl dX7_free_17 rfl ?_
        refine x_if_ne (tgt := 23) (pc' := 21) C dX7_free_18 (by decide) rfl (fun c3 => ?_) (fun c3 => ?_)
        · rw [if_neg c3] at hRES
          replace hok := hok.2 c3
          refine x_iinc (pc' := 26) (v := (nI (i1_2 + 1))) (L' := [some (.ref h), some (.int (nI (i1_2 + 1)))]) C dX7_free_23 rfl rfl (nI_add i1_2 1) (Nat.le_of_ble_eq_true rfl) rfl ?_
          refine x_goto (tgt := 2) C dX7_free_26 (by decide) ?_
          exact ih2 (i1_2 + 1) (by omega) (by omega) hRES hok
        · rw [if_pos c3] at hRES
          replace hok := hok.1 c3
          refine x_iload_n (pc' := 22) C dX7_free_21 rfl rfl rfl ?_
          exact x_iret C (Nat.zero_le _) (Nat.zero_le _) dX7_free_22 (by rw [hRES])
  exact loop2 25 0 (by omega) (by omega) hRES hok

def k_X7_comes_48 (S : CS) (a1 : Int32) (S_48 : CS) : Int32 × CS := (bind1 (setF S_48 0 (upd (S_48.2 0) ((f_X7_of (f_X7_free S) 0)).toNatClampNeg 1)) (fun z3 => (bind1 (setF z3 0 (upd (z3.2 0) ((f_X7_of (f_X7_free S) 1)).toNatClampNeg a1)) (fun z5 => (bind1 (setF z5 0 (upd (z5.2 0) ((f_X7_of (f_X7_free S) 2)).toNatClampNeg 1)) (fun z7 => ((f_X7_free S), z7)))))))
def ok_X7_comes_48 (S : CS) (a1 : Int32) (S_48 : CS) : Prop := (vp_in (f_X7_of (f_X7_free S) 0) 318 ∧ (bind1 (setF S_48 0 (upd (S_48.2 0) ((f_X7_of (f_X7_free S) 0)).toNatClampNeg 1)) (fun z3 => (vp_in (f_X7_of (f_X7_free S) 1) 318 ∧ (bind1 (setF z3 0 (upd (z3.2 0) ((f_X7_of (f_X7_free S) 1)).toNatClampNeg a1)) (fun z5 => (vp_in (f_X7_of (f_X7_free S) 2) 318 ∧ (bind1 (setF z5 0 (upd (z5.2 0) ((f_X7_of (f_X7_free S) 2)).toNatClampNeg 1)) (fun z7 => True)))))))))
def l_X7_comes_7 (S : CS) (a1 : Int32) : Nat → CS → Nat → Int32 × CS
  | 0, _, _ => (0, dfCS)
  | n7 + 1, S_7, i3_7 => (if i3_7 < 13 then (if i3_7 < 5 then (bind1 (setF S_7 0 (upd (S_7.2 0) ((f_X7_of (f_X7_free S) (nI i3_7))).toNatClampNeg 0)) (fun z14 => (l_X7_comes_7 S a1 n7 z14 (i3_7 + 1)))) else (bind1 (setF S_7 0 (upd (S_7.2 0) ((f_X7_of (f_X7_free S) (nI i3_7))).toNatClampNeg ((S_7.2 0) ((f_X7_of a1 (nI i3_7))).toNatClampNeg))) (fun z12 => (l_X7_comes_7 S a1 n7 z12 (i3_7 + 1))))) else (k_X7_comes_48 S a1 S_7))
def ol_X7_comes_7 (S : CS) (a1 : Int32) : Nat → CS → Nat → Prop
  | 0, _, _ => True
  | n7 + 1, S_7, i3_7 => ((i3_7 < 13 → ((i3_7 < 5 → (vp_in (f_X7_of (f_X7_free S) (nI i3_7)) 318 ∧ (bind1 (setF S_7 0 (upd (S_7.2 0) ((f_X7_of (f_X7_free S) (nI i3_7))).toNatClampNeg 0)) (fun z14 => (ol_X7_comes_7 S a1 n7 z14 (i3_7 + 1)))))) ∧ (¬ (i3_7 < 5) → (vp_in (f_X7_of a1 (nI i3_7)) 318 ∧ (vp_in (f_X7_of (f_X7_free S) (nI i3_7)) 318 ∧ (bind1 (setF S_7 0 (upd (S_7.2 0) ((f_X7_of (f_X7_free S) (nI i3_7))).toNatClampNeg ((S_7.2 0) ((f_X7_of a1 (nI i3_7))).toNatClampNeg))) (fun z12 => (ol_X7_comes_7 S a1 n7 z12 (i3_7 + 1))))))))) ∧ (¬ (i3_7 < 13) → (ok_X7_comes_48 S a1 S_7)))
def f_X7_comes (S : CS) (a1 : Int32) : Int32 × CS := (l_X7_comes_7 S a1 14 S 0)
def o_X7_comes (S : CS) (a1 : Int32) : Prop := ((o_X7_free S) ∧ (ol_X7_comes_7 S a1 14 S 0))
set_option maxRecDepth 100000 in
set_option maxHeartbeats 8000000 in
theorem c_X7_comes (l : Launch) (g : GT) (h : Nat) (ad : Nat → Nat) (S : CS) (a1 : Int32) (hok : o_X7_comes S a1) : CW l yX7_comes (.code yX7_comes cX7_comes 4 (some .int)) 2 g [.ref h, .int a1] (wMo g h ad S) (some (.int (f_X7_comes S a1).1)) (wMo g h ad (f_X7_comes S a1).2) := by
  obtain ⟨RES, hRES⟩ : ∃ z, z = (f_X7_comes S a1) := ⟨_, rfl⟩
  rw [← hRES]
  unfold f_X7_comes at hRES
  unfold o_X7_comes at hok
  refine CWx.of (nL := 4) (ret := (some .int)) (own := RX7) (cc := cX7_comes) rfl (by decide) rfl (List.forall_mem_cons.mpr ⟨rfl, (List.forall_mem_cons.mpr ⟨rfl, (fun _ h => absurd h List.not_mem_nil)⟩)⟩) (Nat.le_of_ble_eq_true rfl) ?_
  intro k C B hin hkl hkg
  subst hkl; subst hkg
  refine x_loc2 (L' := [some (.ref h), some (.int a1), none, none]) rfl ?_
  refine x_aload_n (pc' := 1) C dX7_comes_0 rfl rfl rfl ?_
  obtain ⟨hn1, hok⟩ := hok
  refine x_RV (st := []) (st2 := [.int (f_X7_free S)]) (pc' := 4) C (c_X7_free (kl k) (kg k) h ad S hn1) cw_X7_68 ok_X7_free rfl (by decide) 0 rfl rfl [0, 1, 2, 3, 4, 5, 6] rfl rfl rfl (Nat.le_of_ble_eq_true rfl) (Nat.zero_le _) (Nat.zero_le _) rfl dX7_comes_1 rfl rfl ?_
  refine x_istore_n (pc' := 5) (L' := [some (.ref h), some (.int a1), some (.int (f_X7_free S)), none]) C dX7_comes_4 rfl rfl (Nat.le_of_ble_eq_true rfl) rfl ?_
  refine x_iconst (v := 0) (pc' := 6) C dX7_comes_5 rfl (by decide) ?_
  refine x_istore_n (pc' := 7) (L' := [some (.ref h), some (.int a1), some (.int (f_X7_free S)), some (.int 0)]) C dX7_comes_6 rfl rfl (Nat.le_of_ble_eq_true rfl) rfl ?_
  have cont48 : ∀ (S_48 : CS), RES = k_X7_comes_48 S a1 S_48 → ok_X7_comes_48 S a1 S_48 → X k 0 0 (wMo (kg k) h ad S_48) 48 [some (.ref h), some (.int a1), some (.int (f_X7_free S)), none] [] := by
    intro S_48 hRES hok
    unfold k_X7_comes_48 at hRES
    unfold ok_X7_comes_48 at hok
    refine x_aload_n (pc' := 49) C dX7_comes_48 rfl rfl rfl ?_
    refine x_get (pc' := 52) (v := .ref (ad 0)) C 0 0 inBX7 rfl rfl (by decide) fl_X7_7 rfl rfl dX7_comes_49 rfl ?_
    refine x_iload_n (pc' := 53) C dX7_comes_52 rfl rfl rfl ?_
    refine x_iconst (v := 0) (pc' := 54) C dX7_comes_53 rfl (by decide) ?_
    refine x_RS (st := [.ref (ad 0)]) (st2 := [.int (f_X7_of (f_X7_free S) 0), .ref (ad 0)]) (pc' := 57) C (c_X7_of (kl k) (kg k) (f_X7_free S) 0) cw_X7_32 ok_X7_of (by decide) [] rfl rfl rfl (Nat.le_of_ble_eq_true rfl) (Nat.zero_le _) (Nat.zero_le _) rfl dX7_comes_54 rfl rfl ?_
    refine x_iconst (v := 1) (pc' := 58) C dX7_comes_57 rfl (by decide) ?_
    obtain ⟨hn2, hok⟩ := hok
    obtain ⟨z3, ez3⟩ : ∃ z, z = (setF S_48 0 (upd (S_48.2 0) ((f_X7_of (f_X7_free S) 0)).toNatClampNeg 1)) := ⟨_, rfl⟩
    replace hRES := bd hRES z3 ez3
    replace hok := bdP hok z3 ez3
    refine x_iast (pc' := 59) (f := S_48.2 0) (w' := wMo (kg k) h ad z3) C B 1 rfl hn2 dX7_comes_58 rfl (by rw [ez3]; rfl) ?_
    refine x_aload_n (pc' := 60) C dX7_comes_59 rfl rfl rfl ?_
    refine x_get (pc' := 63) (v := .ref (ad 0)) C 0 0 inBX7 rfl rfl (by decide) fl_X7_7 rfl rfl dX7_comes_60 rfl ?_
    refine x_iload_n (pc' := 64) C dX7_comes_63 rfl rfl rfl ?_
    refine x_iconst (v := 1) (pc' := 65) C dX7_comes_64 rfl (by decide) ?_
    refine x_RS (st := [.ref (ad 0)]) (st2 := [.int (f_X7_of (f_X7_free S) 1), .ref (ad 0)]) (pc' := 68) C (c_X7_of (kl k) (kg k) (f_X7_free S) 1) cw_X7_32 ok_X7_of (by decide) [] rfl rfl rfl (Nat.le_of_ble_eq_true rfl) (Nat.zero_le _) (Nat.zero_le _) rfl dX7_comes_65 rfl rfl ?_
    refine x_iload_n (pc' := 69) C dX7_comes_68 rfl rfl rfl ?_
    obtain ⟨hn4, hok⟩ := hok
    obtain ⟨z5, ez5⟩ : ∃ z, z = (setF z3 0 (upd (z3.2 0) ((f_X7_of (f_X7_free S) 1)).toNatClampNeg a1)) := ⟨_, rfl⟩
    replace hRES := bd hRES z5 ez5
    replace hok := bdP hok z5 ez5
    refine x_iast (pc' := 70) (f := z3.2 0) (w' := wMo (kg k) h ad z5) C B 1 rfl hn4 dX7_comes_69 rfl (by rw [ez5]; rfl) ?_
    refine x_aload_n (pc' := 71) C dX7_comes_70 rfl rfl rfl ?_
    refine x_get (pc' := 74) (v := .ref (ad 0)) C 0 0 inBX7 rfl rfl (by decide) fl_X7_7 rfl rfl dX7_comes_71 rfl ?_
    refine x_iload_n (pc' := 75) C dX7_comes_74 rfl rfl rfl ?_
    refine x_iconst (v := 2) (pc' := 76) C dX7_comes_75 rfl (by decide) ?_
    refine x_RS (st := [.ref (ad 0)]) (st2 := [.int (f_X7_of (f_X7_free S) 2), .ref (ad 0)]) (pc' := 79) C (c_X7_of (kl k) (kg k) (f_X7_free S) 2) cw_X7_32 ok_X7_of (by decide) [] rfl rfl rfl (Nat.le_of_ble_eq_true rfl) (Nat.zero_le _) (Nat.zero_le _) rfl dX7_comes_76 rfl rfl ?_
    refine x_iconst (v := 1) (pc' := 80) C dX7_comes_79 rfl (by decide) ?_
    obtain ⟨hn6, hok⟩ := hok
    obtain ⟨z7, ez7⟩ : ∃ z, z = (setF z5 0 (upd (z5.2 0) ((f_X7_of (f_X7_free S) 2)).toNatClampNeg 1)) := ⟨_, rfl⟩
    replace hRES := bd hRES z7 ez7
    replace hok := bdP hok z7 ez7
    refine x_iast (pc' := 81) (f := z5.2 0) (w' := wMo (kg k) h ad z7) C B 1 rfl hn6 dX7_comes_80 rfl (by rw [ez7]; rfl) ?_
    refine x_iload_n (pc' := 82) C dX7_comes_81 rfl rfl rfl ?_
    exact x_iret C (Nat.zero_le _) (Nat.zero_le _) dX7_comes_82 ⟨by rw [hRES], by rw [hRES]⟩
  have loop7 : ∀ (n7 : Nat) (S_7 : CS) (i3_7 : Nat), i3_7 ≤ 13 → 13 < i3_7 + n7 → RES = l_X7_comes_7 S a1 n7 S_7 i3_7 → ol_X7_comes_7 S a1 n7 S_7 i3_7 → X k 0 0 (wMo (kg k) h ad S_7) 7 [some (.ref h), some (.int a1), some (.int (f_X7_free S)), some (.int (nI i3_7))] [] := by
    intro n7
    induction n7 with
    | zero =>
      intro S_7 i3_7 hb7 hf7 hRES hok
      omega
    | succ n7 ih7 =>
      intro S_7 i3_7 hb7 hf7 hRES hok
      rw [l_X7_comes_7] at hRES
      rw [ol_X7_comes_7] at hok
      refine x_iload_n (pc' := 8) C dX7_comes_7 rfl rfl rfl ?_
      refine x_bipush (v := 13) (pc' := 10) C dX7_comes_8 rfl (by decide) ?_
      refine x_icmpN_ge (tgt := 48) (pc' := 13) C i3_7 13 dX7_comes_10 (by decide) rfl (by omega) (by omega) (fun c8 => ?_) (fun c8 => ?_)
      · rw [if_neg c8] at hRES
        replace hok := hok.2 c8
        refine x_forget (L' := [some (.ref h), some (.int a1), some (.int (f_X7_free S)), none]) [0, 1, 2] rfl rfl ?_
        exact cont48 S_7 hRES hok
      · rw [if_pos c8] at hRES
        replace hok := hok.1 c8
        refine x_aload_n (pc' := 14) C dX7_comes_13 rfl rfl rfl ?_
        refine x_get (pc' := 17) (v := .ref (ad 0)) C 0 0 inBX7 rfl rfl (by decide) fl_X7_7 rfl rfl dX7_comes_14 rfl ?_
        refine x_iload_n (pc' := 18) C dX7_comes_17 rfl rfl rfl ?_
        refine x_iload_n (pc' := 19) C dX7_comes_18 rfl rfl rfl ?_
        refine x_RS (st := [.ref (ad 0)]) (st2 := [.int (f_X7_of (f_X7_free S) (nI i3_7)), .ref (ad 0)]) (pc' := 22) C (c_X7_of (kl k) (kg k) (f_X7_free S) (nI i3_7)) cw_X7_32 ok_X7_of (by decide) [] rfl rfl rfl (Nat.le_of_ble_eq_true rfl) (Nat.zero_le _) (Nat.zero_le _) rfl dX7_comes_19 rfl rfl ?_
        refine x_iload_n (pc' := 23) C dX7_comes_22 rfl rfl rfl ?_
        refine x_iconst (v := 5) (pc' := 24) C dX7_comes_23 rfl (by decide) ?_
        refine x_icmpN_ge (tgt := 31) (pc' := 27) C i3_7 5 dX7_comes_24 (by decide) rfl (by omega) (by omega) (fun c9 => ?_) (fun c9 => ?_)
        · rw [if_neg c9] at hRES
          replace hok := hok.2 c9
          refine x_aload_n (pc' := 32) C dX7_comes_31 rfl rfl rfl ?_
          refine x_get (pc' := 35) (v := .ref (ad 0)) C 0 0 inBX7 rfl rfl (by decide) fl_X7_7 rfl rfl dX7_comes_32 rfl ?_
          refine x_iload_n (pc' := 36) C dX7_comes_35 rfl rfl rfl ?_
          refine x_iload_n (pc' := 37) C dX7_comes_36 rfl rfl rfl ?_
          refine x_RS (st := [.ref (ad 0), .int (f_X7_of (f_X7_free S) (nI i3_7)), .ref (ad 0)]) (st2 := [.int (f_X7_of a1 (nI i3_7)), .ref (ad 0), .int (f_X7_of (f_X7_free S) (nI i3_7)), .ref (ad 0)]) (pc' := 40) C (c_X7_of (kl k) (kg k) a1 (nI i3_7)) cw_X7_32 ok_X7_of (by decide) [] rfl rfl rfl (Nat.le_of_ble_eq_true rfl) (Nat.zero_le _) (Nat.zero_le _) rfl dX7_comes_37 rfl rfl ?_
          obtain ⟨hn10, hok⟩ := hok
          refine x_iald (pc' := 41) (f := S_7.2 0) (v := ((S_7.2 0) ((f_X7_of a1 (nI i3_7))).toNatClampNeg)) C 1 rfl hn10 rfl dX7_comes_40 rfl ?_
          obtain ⟨hn11, hok⟩ := hok
          obtain ⟨z12, ez12⟩ : ∃ z, z = (setF S_7 0 (upd (S_7.2 0) ((f_X7_of (f_X7_free S) (nI i3_7))).toNatClampNeg ((S_7.2 0) ((f_X7_of a1 (nI i3_7))).toNatClampNeg))) := ⟨_, rfl⟩
          replace hRES := bd hRES z12 ez12
          replace hok := bdP hok z12 ez12
          refine x_iast (pc' := 42) (f := S_7.2 0) (w' := wMo (kg k) h ad z12) C B 1 rfl hn11 dX7_comes_41 rfl (by rw [ez12]; rfl) ?_
          refine x_iinc (pc' := 45) (v := (nI (i3_7 + 1))) (L' := [some (.ref h), some (.int a1), some (.int (f_X7_free S)), some (.int (nI (i3_7 + 1)))]) C dX7_comes_42 rfl rfl (nI_add i3_7 1) (Nat.le_of_ble_eq_true rfl) rfl ?_
          refine x_goto (tgt := 7) C dX7_comes_45 (by decide) ?_
          exact ih7 z12 (i3_7 + 1) (by omega) (by omega) hRES hok
        · rw [if_pos c9] at hRES
          replace hok := hok.1 c9
          refine x_iconst (v := 0) (pc' := 28) C dX7_comes_27 rfl (by decide) ?_
          refine x_goto (tgt := 41) C dX7_comes_28 (by decide) ?_
          obtain ⟨hn13, hok⟩ := hok
          obtain ⟨z14, ez14⟩ : ∃ z, z = (setF S_7 0 (upd (S_7.2 0) ((f_X7_of (f_X7_free S) (nI i3_7))).toNatClampNeg 0)) := ⟨_, rfl⟩
          replace hRES := bd hRES z14 ez14
          replace hok := bdP hok z14 ez14
          refine x_iast (pc' := 42) (f := S_7.2 0) (w' := wMo (kg k) h ad z14) C B 1 rfl hn13 dX7_comes_41 rfl (by rw [ez14]; rfl) ?_
          refine x_iinc (pc' := 45) (v := (nI (i3_7 + 1))) (L' := [some (.ref h), some (.int a1), some (.int (f_X7_free S)), some (.int (nI (i3_7 + 1)))]) C dX7_comes_42 rfl rfl (nI_add i3_7 1) (Nat.le_of_ble_eq_true rfl) rfl ?_
          refine x_goto (tgt := 7) C dX7_comes_45 (by decide) ?_
          exact ih7 z14 (i3_7 + 1) (by omega) (by omega) hRES hok
  exact loop7 14 S 0 (by omega) (by omega) hRES hok

def f_X7_makes (S : CS) (a1 : Int32) (a2 : Int32) (a3 : Int32) : Int32 × CS := (if (f_X7_isVersion S a1) = true then (if (f_X7_in a2 0 7) = true then (if (f_X7_in a3 0 9) = true then (if (f_X7_free S) = (-5) then ((-3), S) else (bind1 (f_X7_comes S a1) (fun z8 => (bind1 (setF z8.2 0 (upd (z8.2.2 0) ((f_X7_of z8.1 (5 + a2))).toNatClampNeg a3)) (fun z10 => (z8.1, z10)))))) else ((-2), S)) else ((-1), S)) else ((-1), S))
def o_X7_makes (S : CS) (a1 : Int32) (a2 : Int32) (a3 : Int32) : Prop := ((o_X7_isVersion S a1) ∧ (((f_X7_isVersion S a1) = true → (((f_X7_in a2 0 7) = true → (((f_X7_in a3 0 9) = true → ((o_X7_free S) ∧ (((f_X7_free S) = (-5) → True) ∧ (¬ (f_X7_free S) = (-5) → ((o_X7_comes S a1) ∧ (bind1 (f_X7_comes S a1) (fun z8 => (vp_in (f_X7_of z8.1 (5 + a2)) 318 ∧ (bind1 (setF z8.2 0 (upd (z8.2.2 0) ((f_X7_of z8.1 (5 + a2))).toNatClampNeg a3)) (fun z10 => True)))))))))) ∧ (¬ (f_X7_in a3 0 9) = true → True))) ∧ (¬ (f_X7_in a2 0 7) = true → True))) ∧ (¬ (f_X7_isVersion S a1) = true → True)))
set_option maxRecDepth 100000 in
set_option maxHeartbeats 8000000 in
theorem c_X7_makes (l : Launch) (g : GT) (h : Nat) (ad : Nat → Nat) (S : CS) (a1 : Int32) (a2 : Int32) (a3 : Int32) (hok : o_X7_makes S a1 a2 a3) : CW l yX7_makes (.code yX7_makes cX7_makes 5 (some .int)) 3 g [.ref h, .int a1, .int a2, .int a3] (wMo g h ad S) (some (.int (f_X7_makes S a1 a2 a3).1)) (wMo g h ad (f_X7_makes S a1 a2 a3).2) := by
  obtain ⟨RES, hRES⟩ : ∃ z, z = (f_X7_makes S a1 a2 a3) := ⟨_, rfl⟩
  rw [← hRES]
  unfold f_X7_makes at hRES
  unfold o_X7_makes at hok
  refine CWx.of (nL := 5) (ret := (some .int)) (own := RX7) (cc := cX7_makes) rfl (by decide) rfl (List.forall_mem_cons.mpr ⟨rfl, (List.forall_mem_cons.mpr ⟨rfl, (List.forall_mem_cons.mpr ⟨rfl, (List.forall_mem_cons.mpr ⟨rfl, (fun _ h => absurd h List.not_mem_nil)⟩)⟩)⟩)⟩) (Nat.le_of_ble_eq_true rfl) ?_
  intro k C B hin hkl hkg
  subst hkl; subst hkg
  refine x_loc2 (L' := [some (.ref h), some (.int a1), some (.int a2), some (.int a3), none]) rfl ?_
  refine x_aload_n (pc' := 1) C dX7_makes_0 rfl rfl rfl ?_
  refine x_iload_n (pc' := 2) C dX7_makes_1 rfl rfl rfl ?_
  obtain ⟨hn1, hok⟩ := hok
  refine x_RV (st := []) (st2 := [.int (bI (f_X7_isVersion S a1))]) (pc' := 5) C (c_X7_isVersion (kl k) (kg k) h ad S a1 hn1) cw_X7_72 ok_X7_isVersion rfl (by decide) 0 rfl rfl [0, 1, 2, 3, 4, 5, 6] rfl rfl rfl (Nat.le_of_ble_eq_true rfl) (Nat.zero_le _) (Nat.zero_le _) rfl dX7_makes_2 rfl rfl ?_
  refine x_ifB_eq (tgt := 18) (pc' := 8) C dX7_makes_5 (by decide) rfl (fun c2 => ?_) (fun c2 => ?_)
  · rw [if_neg c2] at hRES
    replace hok := hok.2 c2
    refine x_iconst (v := (-1)) (pc' := 19) C dX7_makes_18 rfl (by decide) ?_
    exact x_iret C (Nat.zero_le _) (Nat.zero_le _) dX7_makes_19 ⟨by rw [hRES], by rw [hRES]⟩
  · rw [if_pos c2] at hRES
    replace hok := hok.1 c2
    refine x_iload_n (pc' := 9) C dX7_makes_8 rfl rfl rfl ?_
    refine x_iconst (v := 0) (pc' := 10) C dX7_makes_9 rfl (by decide) ?_
    refine x_bipush (v := 7) (pc' := 12) C dX7_makes_10 rfl (by decide) ?_
    refine x_RS (st := []) (st2 := [.int (bI (f_X7_in a2 0 7))]) (pc' := 15) C (c_X7_in (kl k) (kg k) a2 0 7) cw_X7_36 ok_X7_in (by decide) [] rfl rfl rfl (Nat.le_of_ble_eq_true rfl) (Nat.zero_le _) (Nat.zero_le _) rfl dX7_makes_12 rfl rfl ?_
    refine x_ifB_ne (tgt := 20) (pc' := 18) C dX7_makes_15 (by decide) rfl (fun c3 => ?_) (fun c3 => ?_)
    · rw [if_pos c3] at hRES
      replace hok := hok.1 c3
      refine x_iload_n (pc' := 21) C dX7_makes_20 rfl rfl rfl ?_
      refine x_iconst (v := 0) (pc' := 22) C dX7_makes_21 rfl (by decide) ?_
      refine x_bipush (v := 9) (pc' := 24) C dX7_makes_22 rfl (by decide) ?_
      refine x_RS (st := []) (st2 := [.int (bI (f_X7_in a3 0 9))]) (pc' := 27) C (c_X7_in (kl k) (kg k) a3 0 9) cw_X7_36 ok_X7_in (by decide) [] rfl rfl rfl (Nat.le_of_ble_eq_true rfl) (Nat.zero_le _) (Nat.zero_le _) rfl dX7_makes_24 rfl rfl ?_
      refine x_ifB_ne (tgt := 33) (pc' := 30) C dX7_makes_27 (by decide) rfl (fun c4 => ?_) (fun c4 => ?_)
      · rw [if_pos c4] at hRES
        replace hok := hok.1 c4
        refine x_aload_n (pc' := 34) C dX7_makes_33 rfl rfl rfl ?_
        obtain ⟨hn5, hok⟩ := hok
        refine x_RV (st := []) (st2 := [.int (f_X7_free S)]) (pc' := 37) C (c_X7_free (kl k) (kg k) h ad S hn5) cw_X7_68 ok_X7_free rfl (by decide) 0 rfl rfl [0, 1, 2, 3, 4, 5, 6] rfl rfl rfl (Nat.le_of_ble_eq_true rfl) (Nat.zero_le _) (Nat.zero_le _) rfl dX7_makes_34 rfl rfl ?_
        refine x_bipush (v := (-5)) (pc' := 39) C dX7_makes_37 rfl (by decide) ?_
        refine x_icmp_ne (tgt := 45) (pc' := 42) C dX7_makes_39 (by decide) rfl (fun c6 => ?_) (fun c6 => ?_)
        · rw [if_neg c6] at hRES
          replace hok := hok.2 c6
          refine x_aload_n (pc' := 46) C dX7_makes_45 rfl rfl rfl ?_
          refine x_iload_n (pc' := 47) C dX7_makes_46 rfl rfl rfl ?_
          obtain ⟨hn7, hok⟩ := hok
          obtain ⟨z8, ez8⟩ : ∃ z, z = (f_X7_comes S a1) := ⟨_, rfl⟩
          replace hRES := bd hRES z8 ez8
          replace hok := bdP hok z8 ez8
          have hc := c_X7_comes (kl k) (kg k) h ad S a1 hn7
          rw [← ez8] at hc
          refine x_WV (st := []) (st2 := [.int z8.1]) (pc' := 50) C B hc cw_X7_75 ok_X7_comes rfl (by decide) 0 rfl rfl [0, 1, 2, 3, 4, 5, 6] [] [0, 1, 2, 3, 4, 5, 6] (wMo (kg k) h ad z8.2) rfl rfl rfl rfl (by decide) rfl rfl rfl (Nat.le_of_ble_eq_true rfl) (Nat.zero_le _) (Nat.zero_le _) rfl dX7_makes_47 rfl rfl ?_
          refine x_istore (pc' := 52) (L' := [some (.ref h), some (.int a1), some (.int a2), some (.int a3), some (.int z8.1)]) C dX7_makes_50 rfl (Nat.le_of_ble_eq_true rfl) rfl ?_
          refine x_aload_n (pc' := 53) C dX7_makes_52 rfl rfl rfl ?_
          refine x_get (pc' := 56) (v := .ref (ad 0)) C 0 0 inBX7 rfl rfl (by decide) fl_X7_7 rfl rfl dX7_makes_53 rfl ?_
          refine x_iload (pc' := 58) C dX7_makes_56 rfl rfl ?_
          refine x_iconst (v := 5) (pc' := 59) C dX7_makes_58 rfl (by decide) ?_
          refine x_iload_n (pc' := 60) C dX7_makes_59 rfl rfl rfl ?_
          refine x_iadd (pc' := 61) (v := (5 + a2)) C dX7_makes_60 rfl rfl ?_
          refine x_RS (st := [.ref (ad 0)]) (st2 := [.int (f_X7_of z8.1 (5 + a2)), .ref (ad 0)]) (pc' := 64) C (c_X7_of (kl k) (kg k) z8.1 (5 + a2)) cw_X7_32 ok_X7_of (by decide) [] rfl rfl rfl (Nat.le_of_ble_eq_true rfl) (Nat.zero_le _) (Nat.zero_le _) rfl dX7_makes_61 rfl rfl ?_
          refine x_iload_n (pc' := 65) C dX7_makes_64 rfl rfl rfl ?_
          obtain ⟨hn9, hok⟩ := hok
          obtain ⟨z10, ez10⟩ : ∃ z, z = (setF z8.2 0 (upd (z8.2.2 0) ((f_X7_of z8.1 (5 + a2))).toNatClampNeg a3)) := ⟨_, rfl⟩
          replace hRES := bd hRES z10 ez10
          replace hok := bdP hok z10 ez10
          refine x_iast (pc' := 66) (f := z8.2.2 0) (w' := wMo (kg k) h ad z10) C B 1 rfl hn9 dX7_makes_65 rfl (by rw [ez10]; rfl) ?_
          refine x_iload (pc' := 68) C dX7_makes_66 rfl rfl ?_
          exact x_iret C (Nat.zero_le _) (Nat.zero_le _) dX7_makes_68 ⟨by rw [hRES], by rw [hRES]⟩
        · rw [if_pos c6] at hRES
          replace hok := hok.1 c6
          refine x_bipush (v := (-3)) (pc' := 44) C dX7_makes_42 rfl (by decide) ?_
          exact x_iret C (Nat.zero_le _) (Nat.zero_le _) dX7_makes_44 ⟨by rw [hRES], by rw [hRES]⟩
      · rw [if_neg c4] at hRES
        replace hok := hok.2 c4
        refine x_bipush (v := (-2)) (pc' := 32) C dX7_makes_30 rfl (by decide) ?_
        exact x_iret C (Nat.zero_le _) (Nat.zero_le _) dX7_makes_32 ⟨by rw [hRES], by rw [hRES]⟩
    · rw [if_neg c3] at hRES
      replace hok := hok.2 c3
      refine x_iconst (v := (-1)) (pc' := 19) C dX7_makes_18 rfl (by decide) ?_
      exact x_iret C (Nat.zero_le _) (Nat.zero_le _) dX7_makes_19 ⟨by rw [hRES], by rw [hRES]⟩

def k_X7_mixes_121 (z9 : Int32 × CS) (S_121 : CS) : Int32 × CS := (z9.1, S_121)
def ok_X7_mixes_121 (S_121 : CS) : Prop := True
def l_X7_mixes_54 (a2 : Int32) (a3 : Int32) (z9 : Int32 × CS) : Nat → CS → Nat → Int32 × CS
  | 0, _, _ => (0, dfCS)
  | n54 + 1, S_54, i5_54 => (if i5_54 < 8 then (if ((a3 >>> ((nI i5_54) &&& 31)) &&& 1) = 1 then (bind1 (setF S_54 0 (upd (S_54.2 0) ((f_X7_of z9.1 (nI (5 + i5_54)))).toNatClampNeg ((S_54.2 0) ((f_X7_of a2 (nI (5 + i5_54)))).toNatClampNeg))) (fun z17 => (l_X7_mixes_54 a2 a3 z9 n54 z17 (i5_54 + 1)))) else (bind1 (setF S_54 0 (upd (S_54.2 0) ((f_X7_of z9.1 (nI (5 + i5_54)))).toNatClampNeg ((S_54.2 0) ((f_X7_of z9.1 (nI (5 + i5_54)))).toNatClampNeg))) (fun z14 => (l_X7_mixes_54 a2 a3 z9 n54 z14 (i5_54 + 1))))) else (k_X7_mixes_121 z9 S_54))
def ol_X7_mixes_54 (a2 : Int32) (a3 : Int32) (z9 : Int32 × CS) : Nat → CS → Nat → Prop
  | 0, _, _ => True
  | n54 + 1, S_54, i5_54 => ((i5_54 < 8 → ((((a3 >>> ((nI i5_54) &&& 31)) &&& 1) = 1 → (vp_in (f_X7_of a2 (nI (5 + i5_54))) 318 ∧ (vp_in (f_X7_of z9.1 (nI (5 + i5_54))) 318 ∧ (bind1 (setF S_54 0 (upd (S_54.2 0) ((f_X7_of z9.1 (nI (5 + i5_54)))).toNatClampNeg ((S_54.2 0) ((f_X7_of a2 (nI (5 + i5_54)))).toNatClampNeg))) (fun z17 => (ol_X7_mixes_54 a2 a3 z9 n54 z17 (i5_54 + 1))))))) ∧ (¬ ((a3 >>> ((nI i5_54) &&& 31)) &&& 1) = 1 → (vp_in (f_X7_of z9.1 (nI (5 + i5_54))) 318 ∧ (vp_in (f_X7_of z9.1 (nI (5 + i5_54))) 318 ∧ (bind1 (setF S_54 0 (upd (S_54.2 0) ((f_X7_of z9.1 (nI (5 + i5_54)))).toNatClampNeg ((S_54.2 0) ((f_X7_of z9.1 (nI (5 + i5_54)))).toNatClampNeg))) (fun z14 => (ol_X7_mixes_54 a2 a3 z9 n54 z14 (i5_54 + 1))))))))) ∧ (¬ (i5_54 < 8) → (ok_X7_mixes_121 S_54)))
def f_X7_mixes (S : CS) (a1 : Int32) (a2 : Int32) (a3 : Int32) : Int32 × CS := (if (f_X7_isVersion S a1) = true then (if (f_X7_isVersion S a2) = true then (if (f_X7_in a3 1 255) = true then (if (f_X7_free S) = (-5) then ((-3), S) else (bind1 (f_X7_comes S a1) (fun z9 => (l_X7_mixes_54 a2 a3 z9 9 z9.2 0)))) else ((-2), S)) else ((-1), S)) else ((-1), S))
def o_X7_mixes (S : CS) (a1 : Int32) (a2 : Int32) (a3 : Int32) : Prop := ((o_X7_isVersion S a1) ∧ (((f_X7_isVersion S a1) = true → ((o_X7_isVersion S a2) ∧ (((f_X7_isVersion S a2) = true → (((f_X7_in a3 1 255) = true → ((o_X7_free S) ∧ (((f_X7_free S) = (-5) → True) ∧ (¬ (f_X7_free S) = (-5) → ((o_X7_comes S a1) ∧ (bind1 (f_X7_comes S a1) (fun z9 => (ol_X7_mixes_54 a2 a3 z9 9 z9.2 0)))))))) ∧ (¬ (f_X7_in a3 1 255) = true → True))) ∧ (¬ (f_X7_isVersion S a2) = true → True)))) ∧ (¬ (f_X7_isVersion S a1) = true → True)))
set_option maxRecDepth 100000 in
set_option maxHeartbeats 8000000 in
theorem c_X7_mixes (l : Launch) (g : GT) (h : Nat) (ad : Nat → Nat) (S : CS) (a1 : Int32) (a2 : Int32) (a3 : Int32) (hok : o_X7_mixes S a1 a2 a3) : CW l yX7_mixes (.code yX7_mixes cX7_mixes 6 (some .int)) 3 g [.ref h, .int a1, .int a2, .int a3] (wMo g h ad S) (some (.int (f_X7_mixes S a1 a2 a3).1)) (wMo g h ad (f_X7_mixes S a1 a2 a3).2) := by
  obtain ⟨RES, hRES⟩ : ∃ z, z = (f_X7_mixes S a1 a2 a3) := ⟨_, rfl⟩
  rw [← hRES]
  unfold f_X7_mixes at hRES
  unfold o_X7_mixes at hok
  refine CWx.of (nL := 6) (ret := (some .int)) (own := RX7) (cc := cX7_mixes) rfl (by decide) rfl (List.forall_mem_cons.mpr ⟨rfl, (List.forall_mem_cons.mpr ⟨rfl, (List.forall_mem_cons.mpr ⟨rfl, (List.forall_mem_cons.mpr ⟨rfl, (fun _ h => absurd h List.not_mem_nil)⟩)⟩)⟩)⟩) (Nat.le_of_ble_eq_true rfl) ?_
  intro k C B hin hkl hkg
  subst hkl; subst hkg
  refine x_loc2 (L' := [some (.ref h), some (.int a1), some (.int a2), some (.int a3), none, none]) rfl ?_
  refine x_aload_n (pc' := 1) C dX7_mixes_0 rfl rfl rfl ?_
  refine x_iload_n (pc' := 2) C dX7_mixes_1 rfl rfl rfl ?_
  obtain ⟨hn1, hok⟩ := hok
  refine x_RV (st := []) (st2 := [.int (bI (f_X7_isVersion S a1))]) (pc' := 5) C (c_X7_isVersion (kl k) (kg k) h ad S a1 hn1) cw_X7_72 ok_X7_isVersion rfl (by decide) 0 rfl rfl [0, 1, 2, 3, 4, 5, 6] rfl rfl rfl (Nat.le_of_ble_eq_true rfl) (Nat.zero_le _) (Nat.zero_le _) rfl dX7_mixes_2 rfl rfl ?_
  refine x_ifB_eq (tgt := 16) (pc' := 8) C dX7_mixes_5 (by decide) rfl (fun c2 => ?_) (fun c2 => ?_)
  · rw [if_neg c2] at hRES
    replace hok := hok.2 c2
    refine x_iconst (v := (-1)) (pc' := 17) C dX7_mixes_16 rfl (by decide) ?_
    exact x_iret C (Nat.zero_le _) (Nat.zero_le _) dX7_mixes_17 ⟨by rw [hRES], by rw [hRES]⟩
  · rw [if_pos c2] at hRES
    replace hok := hok.1 c2
    refine x_aload_n (pc' := 9) C dX7_mixes_8 rfl rfl rfl ?_
    refine x_iload_n (pc' := 10) C dX7_mixes_9 rfl rfl rfl ?_
    obtain ⟨hn3, hok⟩ := hok
    refine x_RV (st := []) (st2 := [.int (bI (f_X7_isVersion S a2))]) (pc' := 13) C (c_X7_isVersion (kl k) (kg k) h ad S a2 hn3) cw_X7_72 ok_X7_isVersion rfl (by decide) 0 rfl rfl [0, 1, 2, 3, 4, 5, 6] rfl rfl rfl (Nat.le_of_ble_eq_true rfl) (Nat.zero_le _) (Nat.zero_le _) rfl dX7_mixes_10 rfl rfl ?_
    refine x_ifB_ne (tgt := 18) (pc' := 16) C dX7_mixes_13 (by decide) rfl (fun c4 => ?_) (fun c4 => ?_)
    · rw [if_pos c4] at hRES
      replace hok := hok.1 c4
      refine x_iload_n (pc' := 19) C dX7_mixes_18 rfl rfl rfl ?_
      refine x_iconst (v := 1) (pc' := 20) C dX7_mixes_19 rfl (by decide) ?_
      refine x_sipush (v := 255) (pc' := 23) C dX7_mixes_20 rfl (by decide) ?_
      refine x_RS (st := []) (st2 := [.int (bI (f_X7_in a3 1 255))]) (pc' := 26) C (c_X7_in (kl k) (kg k) a3 1 255) cw_X7_36 ok_X7_in (by decide) [] rfl rfl rfl (Nat.le_of_ble_eq_true rfl) (Nat.zero_le _) (Nat.zero_le _) rfl dX7_mixes_23 rfl rfl ?_
      refine x_ifB_ne (tgt := 32) (pc' := 29) C dX7_mixes_26 (by decide) rfl (fun c5 => ?_) (fun c5 => ?_)
      · rw [if_pos c5] at hRES
        replace hok := hok.1 c5
        refine x_aload_n (pc' := 33) C dX7_mixes_32 rfl rfl rfl ?_
        obtain ⟨hn6, hok⟩ := hok
        refine x_RV (st := []) (st2 := [.int (f_X7_free S)]) (pc' := 36) C (c_X7_free (kl k) (kg k) h ad S hn6) cw_X7_68 ok_X7_free rfl (by decide) 0 rfl rfl [0, 1, 2, 3, 4, 5, 6] rfl rfl rfl (Nat.le_of_ble_eq_true rfl) (Nat.zero_le _) (Nat.zero_le _) rfl dX7_mixes_33 rfl rfl ?_
        refine x_bipush (v := (-5)) (pc' := 38) C dX7_mixes_36 rfl (by decide) ?_
        refine x_icmp_ne (tgt := 44) (pc' := 41) C dX7_mixes_38 (by decide) rfl (fun c7 => ?_) (fun c7 => ?_)
        · rw [if_neg c7] at hRES
          replace hok := hok.2 c7
          refine x_aload_n (pc' := 45) C dX7_mixes_44 rfl rfl rfl ?_
          refine x_iload_n (pc' := 46) C dX7_mixes_45 rfl rfl rfl ?_
          obtain ⟨hn8, hok⟩ := hok
          obtain ⟨z9, ez9⟩ : ∃ z, z = (f_X7_comes S a1) := ⟨_, rfl⟩
          replace hRES := bd hRES z9 ez9
          replace hok := bdP hok z9 ez9
          have hc := c_X7_comes (kl k) (kg k) h ad S a1 hn8
          rw [← ez9] at hc
          refine x_WV (st := []) (st2 := [.int z9.1]) (pc' := 49) C B hc cw_X7_75 ok_X7_comes rfl (by decide) 0 rfl rfl [0, 1, 2, 3, 4, 5, 6] [] [0, 1, 2, 3, 4, 5, 6] (wMo (kg k) h ad z9.2) rfl rfl rfl rfl (by decide) rfl rfl rfl (Nat.le_of_ble_eq_true rfl) (Nat.zero_le _) (Nat.zero_le _) rfl dX7_mixes_46 rfl rfl ?_
          refine x_istore (pc' := 51) (L' := [some (.ref h), some (.int a1), some (.int a2), some (.int a3), some (.int z9.1), none]) C dX7_mixes_49 rfl (Nat.le_of_ble_eq_true rfl) rfl ?_
          refine x_iconst (v := 0) (pc' := 52) C dX7_mixes_51 rfl (by decide) ?_
          refine x_istore (pc' := 54) (L' := [some (.ref h), some (.int a1), some (.int a2), some (.int a3), some (.int z9.1), some (.int 0)]) C dX7_mixes_52 rfl (Nat.le_of_ble_eq_true rfl) rfl ?_
          have cont121 : ∀ (S_121 : CS), RES = k_X7_mixes_121 z9 S_121 → ok_X7_mixes_121 S_121 → X k 0 0 (wMo (kg k) h ad S_121) 121 [none, none, none, none, some (.int z9.1), none] [] := by
            intro S_121 hRES hok
            unfold k_X7_mixes_121 at hRES
            unfold ok_X7_mixes_121 at hok
            refine x_iload (pc' := 123) C dX7_mixes_121 rfl rfl ?_
            exact x_iret C (Nat.zero_le _) (Nat.zero_le _) dX7_mixes_123 ⟨by rw [hRES], by rw [hRES]⟩
          have loop54 : ∀ (n54 : Nat) (S_54 : CS) (i5_54 : Nat), i5_54 ≤ 8 → 8 < i5_54 + n54 → RES = l_X7_mixes_54 a2 a3 z9 n54 S_54 i5_54 → ol_X7_mixes_54 a2 a3 z9 n54 S_54 i5_54 → X k 0 0 (wMo (kg k) h ad S_54) 54 [some (.ref h), none, some (.int a2), some (.int a3), some (.int z9.1), some (.int (nI i5_54))] [] := by
            intro n54
            induction n54 with
            | zero =>
              intro S_54 i5_54 hb54 hf54 hRES hok
              omega
            | succ n54 ih54 =>
              intro S_54 i5_54 hb54 hf54 hRES hok
              rw [l_X7_mixes_54] at hRES
              rw [ol_X7_mixes_54] at hok
              refine x_iload (pc' := 56) C dX7_mixes_54 rfl rfl ?_
              refine x_bipush (v := 8) (pc' := 58) C dX7_mixes_56 rfl (by decide) ?_
              refine x_icmpN_ge (tgt := 121) (pc' := 61) C i5_54 8 dX7_mixes_58 (by decide) rfl (by omega) (by omega) (fun c10 => ?_) (fun c10 => ?_)
              · rw [if_neg c10] at hRES
                replace hok := hok.2 c10
                refine x_forget (L' := [none, none, none, none, some (.int z9.1), none]) [3] rfl rfl ?_
                exact cont121 S_54 hRES hok
              · rw [if_pos c10] at hRES
                replace hok := hok.1 c10
                refine x_aload_n (pc' := 62) C dX7_mixes_61 rfl rfl rfl ?_
                refine x_get (pc' := 65) (v := .ref (ad 0)) C 0 0 inBX7 rfl rfl (by decide) fl_X7_7 rfl rfl dX7_mixes_62 rfl ?_
                refine x_iload (pc' := 67) C dX7_mixes_65 rfl rfl ?_
                refine x_iconst (v := 5) (pc' := 68) C dX7_mixes_67 rfl (by decide) ?_
                refine x_iload (pc' := 70) C dX7_mixes_68 rfl rfl ?_
                refine x_iadd (pc' := 71) (v := (nI (5 + i5_54))) C dX7_mixes_70 rfl (nI_add 5 i5_54) ?_
                refine x_RS (st := [.ref (ad 0)]) (st2 := [.int (f_X7_of z9.1 (nI (5 + i5_54))), .ref (ad 0)]) (pc' := 74) C (c_X7_of (kl k) (kg k) z9.1 (nI (5 + i5_54))) cw_X7_32 ok_X7_of (by decide) [] rfl rfl rfl (Nat.le_of_ble_eq_true rfl) (Nat.zero_le _) (Nat.zero_le _) rfl dX7_mixes_71 rfl rfl ?_
                refine x_iload_n (pc' := 75) C dX7_mixes_74 rfl rfl rfl ?_
                refine x_iload (pc' := 77) C dX7_mixes_75 rfl rfl ?_
                refine x_ishr (pc' := 78) (v := (a3 >>> ((nI i5_54) &&& 31))) C dX7_mixes_77 rfl rfl ?_
                refine x_iconst (v := 1) (pc' := 79) C dX7_mixes_78 rfl (by decide) ?_
                refine x_iand (pc' := 80) (v := ((a3 >>> ((nI i5_54) &&& 31)) &&& 1)) C dX7_mixes_79 rfl rfl ?_
                refine x_iconst (v := 1) (pc' := 81) C dX7_mixes_80 rfl (by decide) ?_
                refine x_icmp_ne (tgt := 100) (pc' := 84) C dX7_mixes_81 (by decide) rfl (fun c11 => ?_) (fun c11 => ?_)
                · rw [if_neg c11] at hRES
                  replace hok := hok.2 c11
                  refine x_aload_n (pc' := 101) C dX7_mixes_100 rfl rfl rfl ?_
                  refine x_get (pc' := 104) (v := .ref (ad 0)) C 0 0 inBX7 rfl rfl (by decide) fl_X7_7 rfl rfl dX7_mixes_101 rfl ?_
                  refine x_iload (pc' := 106) C dX7_mixes_104 rfl rfl ?_
                  refine x_iconst (v := 5) (pc' := 107) C dX7_mixes_106 rfl (by decide) ?_
                  refine x_iload (pc' := 109) C dX7_mixes_107 rfl rfl ?_
                  refine x_iadd (pc' := 110) (v := (nI (5 + i5_54))) C dX7_mixes_109 rfl (nI_add 5 i5_54) ?_
                  refine x_RS (st := [.ref (ad 0), .int (f_X7_of z9.1 (nI (5 + i5_54))), .ref (ad 0)]) (st2 := [.int (f_X7_of z9.1 (nI (5 + i5_54))), .ref (ad 0), .int (f_X7_of z9.1 (nI (5 + i5_54))), .ref (ad 0)]) (pc' := 113) C (c_X7_of (kl k) (kg k) z9.1 (nI (5 + i5_54))) cw_X7_32 ok_X7_of (by decide) [] rfl rfl rfl (Nat.le_of_ble_eq_true rfl) (Nat.zero_le _) (Nat.zero_le _) rfl dX7_mixes_110 rfl rfl ?_
                  obtain ⟨hn12, hok⟩ := hok
                  refine x_iald (pc' := 114) (f := S_54.2 0) (v := ((S_54.2 0) ((f_X7_of z9.1 (nI (5 + i5_54)))).toNatClampNeg)) C 1 rfl hn12 rfl dX7_mixes_113 rfl ?_
                  obtain ⟨hn13, hok⟩ := hok
                  obtain ⟨z14, ez14⟩ : ∃ z, z = (setF S_54 0 (upd (S_54.2 0) ((f_X7_of z9.1 (nI (5 + i5_54)))).toNatClampNeg ((S_54.2 0) ((f_X7_of z9.1 (nI (5 + i5_54)))).toNatClampNeg))) := ⟨_, rfl⟩
                  replace hRES := bd hRES z14 ez14
                  replace hok := bdP hok z14 ez14
                  refine x_iast (pc' := 115) (f := S_54.2 0) (w' := wMo (kg k) h ad z14) C B 1 rfl hn13 dX7_mixes_114 rfl (by rw [ez14]; rfl) ?_
                  refine x_iinc (pc' := 118) (v := (nI (i5_54 + 1))) (L' := [some (.ref h), none, some (.int a2), some (.int a3), some (.int z9.1), some (.int (nI (i5_54 + 1)))]) C dX7_mixes_115 rfl rfl (nI_add i5_54 1) (Nat.le_of_ble_eq_true rfl) rfl ?_
                  refine x_goto (tgt := 54) C dX7_mixes_118 (by decide) ?_
                  exact ih54 z14 (i5_54 + 1) (by omega) (by omega) hRES hok
                · rw [if_pos c11] at hRES
                  replace hok := hok.1 c11
                  refine x_aload_n (pc' := 85) C dX7_mixes_84 rfl rfl rfl ?_
                  refine x_get (pc' := 88) (v := .ref (ad 0)) C 0 0 inBX7 rfl rfl (by decide) fl_X7_7 rfl rfl dX7_mixes_85 rfl ?_
                  refine x_iload_n (pc' := 89) C dX7_mixes_88 rfl rfl rfl ?_
                  refine x_iconst (v := 5) (pc' := 90) C dX7_mixes_89 rfl (by decide) ?_
                  refine x_iload (pc' := 92) C dX7_mixes_90 rfl rfl ?_
                  refine x_iadd (pc' := 93) (v := (nI (5 + i5_54))) C dX7_mixes_92 rfl (nI_add 5 i5_54) ?_
                  refine x_RS (st := [.ref (ad 0), .int (f_X7_of z9.1 (nI (5 + i5_54))), .ref (ad 0)]) (st2 := [.int (f_X7_of a2 (nI (5 + i5_54))), .ref (ad 0), .int (f_X7_of z9.1 (nI (5 + i5_54))), .ref (ad 0)]) (pc' := 96) C (c_X7_of (kl k) (kg k) a2 (nI (5 + i5_54))) cw_X7_32 ok_X7_of (by decide) [] rfl rfl rfl (Nat.le_of_ble_eq_true rfl) (Nat.zero_le _) (Nat.zero_le _) rfl dX7_mixes_93 rfl rfl ?_
                  obtain ⟨hn15, hok⟩ := hok
                  refine x_iald (pc' := 97) (f := S_54.2 0) (v := ((S_54.2 0) ((f_X7_of a2 (nI (5 + i5_54)))).toNatClampNeg)) C 1 rfl hn15 rfl dX7_mixes_96 rfl ?_
                  refine x_goto (tgt := 114) C dX7_mixes_97 (by decide) ?_
                  obtain ⟨hn16, hok⟩ := hok
                  obtain ⟨z17, ez17⟩ : ∃ z, z = (setF S_54 0 (upd (S_54.2 0) ((f_X7_of z9.1 (nI (5 + i5_54)))).toNatClampNeg ((S_54.2 0) ((f_X7_of a2 (nI (5 + i5_54)))).toNatClampNeg))) := ⟨_, rfl⟩
                  replace hRES := bd hRES z17 ez17
                  replace hok := bdP hok z17 ez17
                  refine x_iast (pc' := 115) (f := S_54.2 0) (w' := wMo (kg k) h ad z17) C B 1 rfl hn16 dX7_mixes_114 rfl (by rw [ez17]; rfl) ?_
                  refine x_iinc (pc' := 118) (v := (nI (i5_54 + 1))) (L' := [some (.ref h), none, some (.int a2), some (.int a3), some (.int z9.1), some (.int (nI (i5_54 + 1)))]) C dX7_mixes_115 rfl rfl (nI_add i5_54 1) (Nat.le_of_ble_eq_true rfl) rfl ?_
                  refine x_goto (tgt := 54) C dX7_mixes_118 (by decide) ?_
                  exact ih54 z17 (i5_54 + 1) (by omega) (by omega) hRES hok
          refine x_forget (L' := [some (.ref h), none, some (.int a2), some (.int a3), some (.int z9.1), some (.int 0)]) [0, 2, 3, 4, 5] rfl rfl ?_
          exact loop54 9 z9.2 0 (by omega) (by omega) hRES hok
        · rw [if_pos c7] at hRES
          replace hok := hok.1 c7
          refine x_bipush (v := (-3)) (pc' := 43) C dX7_mixes_41 rfl (by decide) ?_
          exact x_iret C (Nat.zero_le _) (Nat.zero_le _) dX7_mixes_43 ⟨by rw [hRES], by rw [hRES]⟩
      · rw [if_neg c5] at hRES
        replace hok := hok.2 c5
        refine x_bipush (v := (-2)) (pc' := 31) C dX7_mixes_29 rfl (by decide) ?_
        exact x_iret C (Nat.zero_le _) (Nat.zero_le _) dX7_mixes_31 ⟨by rw [hRES], by rw [hRES]⟩
    · rw [if_neg c4] at hRES
      replace hok := hok.2 c4
      refine x_iconst (v := (-1)) (pc' := 17) C dX7_mixes_16 rfl (by decide) ?_
      exact x_iret C (Nat.zero_le _) (Nat.zero_le _) dX7_mixes_17 ⟨by rw [hRES], by rw [hRES]⟩

def k_X7_removes_92 (S_92 : CS) : Int32 × CS := ((f_X7_versions S_92 0), S_92)
def ok_X7_removes_92 (S_92 : CS) : Prop := ((o_X7_versions S_92 0) ∧ True)
def l_X7_removes_69 (a1 : Int32) : Nat → CS → Nat → Int32 × CS
  | 0, _, _ => (0, dfCS)
  | n69 + 1, S_69, i2_69 => (if i2_69 < 13 then (bind1 (setF S_69 0 (upd (S_69.2 0) ((f_X7_of a1 (nI i2_69))).toNatClampNeg 0)) (fun z11 => (l_X7_removes_69 a1 n69 z11 (i2_69 + 1)))) else (k_X7_removes_92 S_69))
def ol_X7_removes_69 (a1 : Int32) : Nat → CS → Nat → Prop
  | 0, _, _ => True
  | n69 + 1, S_69, i2_69 => ((i2_69 < 13 → (vp_in (f_X7_of a1 (nI i2_69)) 318 ∧ (bind1 (setF S_69 0 (upd (S_69.2 0) ((f_X7_of a1 (nI i2_69))).toNatClampNeg 0)) (fun z11 => (ol_X7_removes_69 a1 n69 z11 (i2_69 + 1)))))) ∧ (¬ (i2_69 < 13) → (ok_X7_removes_92 S_69)))
def k_X7_removes_92b (S_92b : CS) : Int32 × CS := ((f_X7_versions S_92b 0), S_92b)
def ok_X7_removes_92b (S_92b : CS) : Prop := ((o_X7_versions S_92b 0) ∧ True)
def l_X7_removes_69b (a1 : Int32) : Nat → CS → Nat → Int32 × CS
  | 0, _, _ => (0, dfCS)
  | n69b + 1, S_69b, i2_69b => (if i2_69b < 13 then (bind1 (setF S_69b 0 (upd (S_69b.2 0) ((f_X7_of a1 (nI i2_69b))).toNatClampNeg 0)) (fun z17 => (l_X7_removes_69b a1 n69b z17 (i2_69b + 1)))) else (k_X7_removes_92b S_69b))
def ol_X7_removes_69b (a1 : Int32) : Nat → CS → Nat → Prop
  | 0, _, _ => True
  | n69b + 1, S_69b, i2_69b => ((i2_69b < 13 → (vp_in (f_X7_of a1 (nI i2_69b)) 318 ∧ (bind1 (setF S_69b 0 (upd (S_69b.2 0) ((f_X7_of a1 (nI i2_69b))).toNatClampNeg 0)) (fun z17 => (ol_X7_removes_69b a1 n69b z17 (i2_69b + 1)))))) ∧ (¬ (i2_69b < 13) → (ok_X7_removes_92b S_69b)))
def k_X7_removes_92c (S_92c : CS) : Int32 × CS := ((f_X7_versions S_92c 0), S_92c)
def ok_X7_removes_92c (S_92c : CS) : Prop := ((o_X7_versions S_92c 0) ∧ True)
def l_X7_removes_69c (a1 : Int32) : Nat → CS → Nat → Int32 × CS
  | 0, _, _ => (0, dfCS)
  | n69c + 1, S_69c, i2_69c => (if i2_69c < 13 then (bind1 (setF S_69c 0 (upd (S_69c.2 0) ((f_X7_of a1 (nI i2_69c))).toNatClampNeg 0)) (fun z24 => (l_X7_removes_69c a1 n69c z24 (i2_69c + 1)))) else (k_X7_removes_92c S_69c))
def ol_X7_removes_69c (a1 : Int32) : Nat → CS → Nat → Prop
  | 0, _, _ => True
  | n69c + 1, S_69c, i2_69c => ((i2_69c < 13 → (vp_in (f_X7_of a1 (nI i2_69c)) 318 ∧ (bind1 (setF S_69c 0 (upd (S_69c.2 0) ((f_X7_of a1 (nI i2_69c))).toNatClampNeg 0)) (fun z24 => (ol_X7_removes_69c a1 n69c z24 (i2_69c + 1)))))) ∧ (¬ (i2_69c < 13) → (ok_X7_removes_92c S_69c)))
def f_X7_removes (S : CS) (a1 : Int32) : Int32 × CS := (if (f_X7_isVersion S a1) = true then (if a1 = 0 then ((-4), S) else (if 0 < (f_X7_madeOf S a1) then ((-4), S) else (if ((S.2 0) ((f_X7_of a1 3)).toNatClampNeg) = 1 then (if (f_X7_hangs S a1) = true then (bind1 (setF S 0 (upd (S.2 0) ((f_X7_of ((S.2 0) ((f_X7_of a1 1)).toNatClampNeg) 3)).toNatClampNeg 1)) (fun z20 => (l_X7_removes_69c a1 14 z20 0))) else (l_X7_removes_69b a1 14 S 0)) else (l_X7_removes_69 a1 14 S 0)))) else ((-1), S))
def o_X7_removes (S : CS) (a1 : Int32) : Prop := ((o_X7_isVersion S a1) ∧ (((f_X7_isVersion S a1) = true → ((a1 = 0 → True) ∧ (¬ (a1 = 0) → ((o_X7_madeOf S a1) ∧ ((0 < (f_X7_madeOf S a1) → True) ∧ (¬ (0 < (f_X7_madeOf S a1)) → (vp_in (f_X7_of a1 3) 318 ∧ ((((S.2 0) ((f_X7_of a1 3)).toNatClampNeg) = 1 → ((o_X7_hangs S a1) ∧ (((f_X7_hangs S a1) = true → (vp_in (f_X7_of a1 1) 318 ∧ (vp_in (f_X7_of ((S.2 0) ((f_X7_of a1 1)).toNatClampNeg) 3) 318 ∧ (bind1 (setF S 0 (upd (S.2 0) ((f_X7_of ((S.2 0) ((f_X7_of a1 1)).toNatClampNeg) 3)).toNatClampNeg 1)) (fun z20 => (ol_X7_removes_69c a1 14 z20 0)))))) ∧ (¬ (f_X7_hangs S a1) = true → (ol_X7_removes_69b a1 14 S 0))))) ∧ (¬ ((S.2 0) ((f_X7_of a1 3)).toNatClampNeg) = 1 → (ol_X7_removes_69 a1 14 S 0)))))))))) ∧ (¬ (f_X7_isVersion S a1) = true → True)))
set_option maxRecDepth 100000 in
set_option maxHeartbeats 8000000 in
theorem c_X7_removes (l : Launch) (g : GT) (h : Nat) (ad : Nat → Nat) (S : CS) (a1 : Int32) (hok : o_X7_removes S a1) : CW l yX7_removes (.code yX7_removes cX7_removes 3 (some .int)) 2 g [.ref h, .int a1] (wMo g h ad S) (some (.int (f_X7_removes S a1).1)) (wMo g h ad (f_X7_removes S a1).2) := by
  obtain ⟨RES, hRES⟩ : ∃ z, z = (f_X7_removes S a1) := ⟨_, rfl⟩
  rw [← hRES]
  unfold f_X7_removes at hRES
  unfold o_X7_removes at hok
  refine CWx.of (nL := 3) (ret := (some .int)) (own := RX7) (cc := cX7_removes) rfl (by decide) rfl (List.forall_mem_cons.mpr ⟨rfl, (List.forall_mem_cons.mpr ⟨rfl, (fun _ h => absurd h List.not_mem_nil)⟩)⟩) (Nat.le_of_ble_eq_true rfl) ?_
  intro k C B hin hkl hkg
  subst hkl; subst hkg
  refine x_loc2 (L' := [some (.ref h), some (.int a1), none]) rfl ?_
  refine x_aload_n (pc' := 1) C dX7_removes_0 rfl rfl rfl ?_
  refine x_iload_n (pc' := 2) C dX7_removes_1 rfl rfl rfl ?_
  obtain ⟨hn1, hok⟩ := hok
  refine x_RV (st := []) (st2 := [.int (bI (f_X7_isVersion S a1))]) (pc' := 5) C (c_X7_isVersion (kl k) (kg k) h ad S a1 hn1) cw_X7_72 ok_X7_isVersion rfl (by decide) 0 rfl rfl [0, 1, 2, 3, 4, 5, 6] rfl rfl rfl (Nat.le_of_ble_eq_true rfl) (Nat.zero_le _) (Nat.zero_le _) rfl dX7_removes_2 rfl rfl ?_
  refine x_ifB_ne (tgt := 10) (pc' := 8) C dX7_removes_5 (by decide) rfl (fun c2 => ?_) (fun c2 => ?_)
  · rw [if_pos c2] at hRES
    replace hok := hok.1 c2
    refine x_iload_n (pc' := 11) C dX7_removes_10 rfl rfl rfl ?_
    refine x_if_eq (tgt := 22) (pc' := 14) C dX7_removes_11 (by decide) rfl (fun c3 => ?_) (fun c3 => ?_)
    · rw [if_pos c3] at hRES
      replace hok := hok.1 c3
      refine x_bipush (v := (-4)) (pc' := 24) C dX7_removes_22 rfl (by decide) ?_
      exact x_iret C (Nat.zero_le _) (Nat.zero_le _) dX7_removes_24 ⟨by rw [hRES], by rw [hRES]⟩
    · rw [if_neg c3] at hRES
      replace hok := hok.2 c3
      refine x_aload_n (pc' := 15) C dX7_removes_14 rfl rfl rfl ?_
      refine x_iload_n (pc' := 16) C dX7_removes_15 rfl rfl rfl ?_
      obtain ⟨hn4, hok⟩ := hok
      refine x_RV (st := []) (st2 := [.int (f_X7_madeOf S a1)]) (pc' := 19) C (c_X7_madeOf (kl k) (kg k) h ad S a1 hn4) cw_X7_78 ok_X7_madeOf rfl (by decide) 0 rfl rfl [0, 1, 2, 3, 4, 5, 6] rfl rfl rfl (Nat.le_of_ble_eq_true rfl) (Nat.zero_le _) (Nat.zero_le _) rfl dX7_removes_16 rfl rfl ?_
      refine x_if_le (tgt := 25) (pc' := 22) C dX7_removes_19 (by decide) rfl (fun c5 => ?_) (fun c5 => ?_)
      · rw [if_neg c5] at hRES
        replace hok := hok.2 c5
        refine x_aload_n (pc' := 26) C dX7_removes_25 rfl rfl rfl ?_
        refine x_get (pc' := 29) (v := .ref (ad 0)) C 0 0 inBX7 rfl rfl (by decide) fl_X7_7 rfl rfl dX7_removes_26 rfl ?_
        refine x_iload_n (pc' := 30) C dX7_removes_29 rfl rfl rfl ?_
        refine x_iconst (v := 3) (pc' := 31) C dX7_removes_30 rfl (by decide) ?_
        refine x_RS (st := [.ref (ad 0)]) (st2 := [.int (f_X7_of a1 3), .ref (ad 0)]) (pc' := 34) C (c_X7_of (kl k) (kg k) a1 3) cw_X7_32 ok_X7_of (by decide) [] rfl rfl rfl (Nat.le_of_ble_eq_true rfl) (Nat.zero_le _) (Nat.zero_le _) rfl dX7_removes_31 rfl rfl ?_
        obtain ⟨hn6, hok⟩ := hok
        refine x_iald (pc' := 35) (f := S.2 0) (v := ((S.2 0) ((f_X7_of a1 3)).toNatClampNeg)) C 1 rfl hn6 rfl dX7_removes_34 rfl ?_
        refine x_iconst (v := 1) (pc' := 36) C dX7_removes_35 rfl (by decide) ?_
        refine x_icmp_ne (tgt := 67) (pc' := 39) C dX7_removes_36 (by decide) rfl (fun c7 => ?_) (fun c7 => ?_)
        · rw [if_neg c7] at hRES
          replace hok := hok.2 c7
          refine x_iconst (v := 0) (pc' := 68) C dX7_removes_67 rfl (by decide) ?_
          refine x_istore_n (pc' := 69) (L' := [some (.ref h), some (.int a1), some (.int 0)]) C dX7_removes_68 rfl rfl (Nat.le_of_ble_eq_true rfl) rfl ?_
          have cont92 : ∀ (S_92 : CS), RES = k_X7_removes_92 S_92 → ok_X7_removes_92 S_92 → X k 0 0 (wMo (kg k) h ad S_92) 92 [some (.ref h), none, none] [] := by
            intro S_92 hRES hok
            unfold k_X7_removes_92 at hRES
            unfold ok_X7_removes_92 at hok
            refine x_aload_n (pc' := 93) C dX7_removes_92 rfl rfl rfl ?_
            refine x_iconst (v := 0) (pc' := 94) C dX7_removes_93 rfl (by decide) ?_
            obtain ⟨hn8, hok⟩ := hok
            refine x_RV (st := []) (st2 := [.int (f_X7_versions S_92 0)]) (pc' := 97) C (c_X7_versions (kl k) (kg k) h ad S_92 0 hn8) cw_X7_81 ok_X7_versions rfl (by decide) 0 rfl rfl [0, 1, 2, 3, 4, 5, 6] rfl rfl rfl (Nat.le_of_ble_eq_true rfl) (Nat.zero_le _) (Nat.zero_le _) rfl dX7_removes_94 rfl rfl ?_
            exact x_iret C (Nat.zero_le _) (Nat.zero_le _) dX7_removes_97 ⟨by rw [hRES], by rw [hRES]⟩
          have loop69 : ∀ (n69 : Nat) (S_69 : CS) (i2_69 : Nat), i2_69 ≤ 13 → 13 < i2_69 + n69 → RES = l_X7_removes_69 a1 n69 S_69 i2_69 → ol_X7_removes_69 a1 n69 S_69 i2_69 → X k 0 0 (wMo (kg k) h ad S_69) 69 [some (.ref h), some (.int a1), some (.int (nI i2_69))] [] := by
            intro n69
            induction n69 with
            | zero =>
              intro S_69 i2_69 hb69 hf69 hRES hok
              omega
            | succ n69 ih69 =>
              intro S_69 i2_69 hb69 hf69 hRES hok
              rw [l_X7_removes_69] at hRES
              rw [ol_X7_removes_69] at hok
              refine x_iload_n (pc' := 70) C dX7_removes_69 rfl rfl rfl ?_
              refine x_bipush (v := 13) (pc' := 72) C dX7_removes_70 rfl (by decide) ?_
              refine x_icmpN_ge (tgt := 92) (pc' := 75) C i2_69 13 dX7_removes_72 (by decide) rfl (by omega) (by omega) (fun c9 => ?_) (fun c9 => ?_)
              · rw [if_neg c9] at hRES
                replace hok := hok.2 c9
                refine x_forget (L' := [some (.ref h), none, none]) [0] rfl rfl ?_
                exact cont92 S_69 hRES hok
              · rw [if_pos c9] at hRES
                replace hok := hok.1 c9
                refine x_aload_n (pc' := 76) C dX7_removes_75 rfl rfl rfl ?_
                refine x_get (pc' := 79) (v := .ref (ad 0)) C 0 0 inBX7 rfl rfl (by decide) fl_X7_7 rfl rfl dX7_removes_76 rfl ?_
                refine x_iload_n (pc' := 80) C dX7_removes_79 rfl rfl rfl ?_
                refine x_iload_n (pc' := 81) C dX7_removes_80 rfl rfl rfl ?_
                refine x_RS (st := [.ref (ad 0)]) (st2 := [.int (f_X7_of a1 (nI i2_69)), .ref (ad 0)]) (pc' := 84) C (c_X7_of (kl k) (kg k) a1 (nI i2_69)) cw_X7_32 ok_X7_of (by decide) [] rfl rfl rfl (Nat.le_of_ble_eq_true rfl) (Nat.zero_le _) (Nat.zero_le _) rfl dX7_removes_81 rfl rfl ?_
                refine x_iconst (v := 0) (pc' := 85) C dX7_removes_84 rfl (by decide) ?_
                obtain ⟨hn10, hok⟩ := hok
                obtain ⟨z11, ez11⟩ : ∃ z, z = (setF S_69 0 (upd (S_69.2 0) ((f_X7_of a1 (nI i2_69))).toNatClampNeg 0)) := ⟨_, rfl⟩
                replace hRES := bd hRES z11 ez11
                replace hok := bdP hok z11 ez11
                refine x_iast (pc' := 86) (f := S_69.2 0) (w' := wMo (kg k) h ad z11) C B 1 rfl hn10 dX7_removes_85 rfl (by rw [ez11]; rfl) ?_
                refine x_iinc (pc' := 89) (v := (nI (i2_69 + 1))) (L' := [some (.ref h), some (.int a1), some (.int (nI (i2_69 + 1)))]) C dX7_removes_86 rfl rfl (nI_add i2_69 1) (Nat.le_of_ble_eq_true rfl) rfl ?_
                refine x_goto (tgt := 69) C dX7_removes_89 (by decide) ?_
                exact ih69 z11 (i2_69 + 1) (by omega) (by omega) hRES hok
          exact loop69 14 S 0 (by omega) (by omega) hRES hok
        · rw [if_pos c7] at hRES
          replace hok := hok.1 c7
          refine x_aload_n (pc' := 40) C dX7_removes_39 rfl rfl rfl ?_
          refine x_iload_n (pc' := 41) C dX7_removes_40 rfl rfl rfl ?_
          obtain ⟨hn12, hok⟩ := hok
          refine x_RV (st := []) (st2 := [.int (bI (f_X7_hangs S a1))]) (pc' := 44) C (c_X7_hangs (kl k) (kg k) h ad S a1 hn12) cw_X7_43 ok_X7_hangs rfl (by decide) 0 rfl rfl [0, 1, 2, 3, 4, 5, 6] rfl rfl rfl (Nat.le_of_ble_eq_true rfl) (Nat.zero_le _) (Nat.zero_le _) rfl dX7_removes_41 rfl rfl ?_
          refine x_ifB_eq (tgt := 67) (pc' := 47) C dX7_removes_44 (by decide) rfl (fun c13 => ?_) (fun c13 => ?_)
          · rw [if_neg c13] at hRES
            replace hok := hok.2 c13
            refine x_iconst (v := 0) (pc' := 68) C dX7_removes_67 rfl (by decide) ?_
            refine x_istore_n (pc' := 69) (L' := [some (.ref h), some (.int a1), some (.int 0)]) C dX7_removes_68 rfl rfl (Nat.le_of_ble_eq_true rfl) rfl ?_
            have cont92b : ∀ (S_92b : CS), RES = k_X7_removes_92b S_92b → ok_X7_removes_92b S_92b → X k 0 0 (wMo (kg k) h ad S_92b) 92 [some (.ref h), none, none] [] := by
              intro S_92b hRES hok
              unfold k_X7_removes_92b at hRES
              unfold ok_X7_removes_92b at hok
              refine x_aload_n (pc' := 93) C dX7_removes_92 rfl rfl rfl ?_
              refine x_iconst (v := 0) (pc' := 94) C dX7_removes_93 rfl (by decide) ?_
              obtain ⟨hn14, hok⟩ := hok
              refine x_RV (st := []) (st2 := [.int (f_X7_versions S_92b 0)]) (pc' := 97) C (c_X7_versions (kl k) (kg k) h ad S_92b 0 hn14) cw_X7_81 ok_X7_versions rfl (by decide) 0 rfl rfl [0, 1, 2, 3, 4, 5, 6] rfl rfl rfl (Nat.le_of_ble_eq_true rfl) (Nat.zero_le _) (Nat.zero_le _) rfl dX7_removes_94 rfl rfl ?_
              exact x_iret C (Nat.zero_le _) (Nat.zero_le _) dX7_removes_97 ⟨by rw [hRES], by rw [hRES]⟩
            have loop69b : ∀ (n69b : Nat) (S_69b : CS) (i2_69b : Nat), i2_69b ≤ 13 → 13 < i2_69b + n69b → RES = l_X7_removes_69b a1 n69b S_69b i2_69b → ol_X7_removes_69b a1 n69b S_69b i2_69b → X k 0 0 (wMo (kg k) h ad S_69b) 69 [some (.ref h), some (.int a1), some (.int (nI i2_69b))] [] := by
              intro n69b
              induction n69b with
              | zero =>
                intro S_69b i2_69b hb69b hf69b hRES hok
                omega
              | succ n69b ih69b =>
                intro S_69b i2_69b hb69b hf69b hRES hok
                rw [l_X7_removes_69b] at hRES
                rw [ol_X7_removes_69b] at hok
                refine x_iload_n (pc' := 70) C dX7_removes_69 rfl rfl rfl ?_
                refine x_bipush (v := 13) (pc' := 72) C dX7_removes_70 rfl (by decide) ?_
                refine x_icmpN_ge (tgt := 92) (pc' := 75) C i2_69b 13 dX7_removes_72 (by decide) rfl (by omega) (by omega) (fun c15 => ?_) (fun c15 => ?_)
                · rw [if_neg c15] at hRES
                  replace hok := hok.2 c15
                  refine x_forget (L' := [some (.ref h), none, none]) [0] rfl rfl ?_
                  exact cont92b S_69b hRES hok
                · rw [if_pos c15] at hRES
                  replace hok := hok.1 c15
                  refine x_aload_n (pc' := 76) C dX7_removes_75 rfl rfl rfl ?_
                  refine x_get (pc' := 79) (v := .ref (ad 0)) C 0 0 inBX7 rfl rfl (by decide) fl_X7_7 rfl rfl dX7_removes_76 rfl ?_
                  refine x_iload_n (pc' := 80) C dX7_removes_79 rfl rfl rfl ?_
                  refine x_iload_n (pc' := 81) C dX7_removes_80 rfl rfl rfl ?_
                  refine x_RS (st := [.ref (ad 0)]) (st2 := [.int (f_X7_of a1 (nI i2_69b)), .ref (ad 0)]) (pc' := 84) C (c_X7_of (kl k) (kg k) a1 (nI i2_69b)) cw_X7_32 ok_X7_of (by decide) [] rfl rfl rfl (Nat.le_of_ble_eq_true rfl) (Nat.zero_le _) (Nat.zero_le _) rfl dX7_removes_81 rfl rfl ?_
                  refine x_iconst (v := 0) (pc' := 85) C dX7_removes_84 rfl (by decide) ?_
                  obtain ⟨hn16, hok⟩ := hok
                  obtain ⟨z17, ez17⟩ : ∃ z, z = (setF S_69b 0 (upd (S_69b.2 0) ((f_X7_of a1 (nI i2_69b))).toNatClampNeg 0)) := ⟨_, rfl⟩
                  replace hRES := bd hRES z17 ez17
                  replace hok := bdP hok z17 ez17
                  refine x_iast (pc' := 86) (f := S_69b.2 0) (w' := wMo (kg k) h ad z17) C B 1 rfl hn16 dX7_removes_85 rfl (by rw [ez17]; rfl) ?_
                  refine x_iinc (pc' := 89) (v := (nI (i2_69b + 1))) (L' := [some (.ref h), some (.int a1), some (.int (nI (i2_69b + 1)))]) C dX7_removes_86 rfl rfl (nI_add i2_69b 1) (Nat.le_of_ble_eq_true rfl) rfl ?_
                  refine x_goto (tgt := 69) C dX7_removes_89 (by decide) ?_
                  exact ih69b z17 (i2_69b + 1) (by omega) (by omega) hRES hok
            exact loop69b 14 S 0 (by omega) (by omega) hRES hok
          · rw [if_pos c13] at hRES
            replace hok := hok.1 c13
            refine x_aload_n (pc' := 48) C dX7_removes_47 rfl rfl rfl ?_
            refine x_get (pc' := 51) (v := .ref (ad 0)) C 0 0 inBX7 rfl rfl (by decide) fl_X7_7 rfl rfl dX7_removes_48 rfl ?_
            refine x_aload_n (pc' := 52) C dX7_removes_51 rfl rfl rfl ?_
            refine x_get (pc' := 55) (v := .ref (ad 0)) C 0 0 inBX7 rfl rfl (by decide) fl_X7_7 rfl rfl dX7_removes_52 rfl ?_
            refine x_iload_n (pc' := 56) C dX7_removes_55 rfl rfl rfl ?_
            refine x_iconst (v := 1) (pc' := 57) C dX7_removes_56 rfl (by decide) ?_
            refine x_RS (st := [.ref (ad 0), .ref (ad 0)]) (st2 := [.int (f_X7_of a1 1), .ref (ad 0), .ref (ad 0)]) (pc' := 60) C (c_X7_of (kl k) (kg k) a1 1) cw_X7_32 ok_X7_of (by decide) [] rfl rfl rfl (Nat.le_of_ble_eq_true rfl) (Nat.zero_le _) (Nat.zero_le _) rfl dX7_removes_57 rfl rfl ?_
            obtain ⟨hn18, hok⟩ := hok
            refine x_iald (pc' := 61) (f := S.2 0) (v := ((S.2 0) ((f_X7_of a1 1)).toNatClampNeg)) C 1 rfl hn18 rfl dX7_removes_60 rfl ?_
            refine x_iconst (v := 3) (pc' := 62) C dX7_removes_61 rfl (by decide) ?_
            refine x_RS (st := [.ref (ad 0)]) (st2 := [.int (f_X7_of ((S.2 0) ((f_X7_of a1 1)).toNatClampNeg) 3), .ref (ad 0)]) (pc' := 65) C (c_X7_of (kl k) (kg k) ((S.2 0) ((f_X7_of a1 1)).toNatClampNeg) 3) cw_X7_32 ok_X7_of (by decide) [] rfl rfl rfl (Nat.le_of_ble_eq_true rfl) (Nat.zero_le _) (Nat.zero_le _) rfl dX7_removes_62 rfl rfl ?_
            refine x_iconst (v := 1) (pc' := 66) C dX7_removes_65 rfl (by decide) ?_
            obtain ⟨hn19, hok⟩ := hok
            obtain ⟨z20, ez20⟩ : ∃ z, z = (setF S 0 (upd (S.2 0) ((f_X7_of ((S.2 0) ((f_X7_of a1 1)).toNatClampNeg) 3)).toNatClampNeg 1)) := ⟨_, rfl⟩
            replace hRES := bd hRES z20 ez20
            replace hok := bdP hok z20 ez20
            refine x_iast (pc' := 67) (f := S.2 0) (w' := wMo (kg k) h ad z20) C B 1 rfl hn19 dX7_removes_66 rfl (by rw [ez20]; rfl) ?_
            refine x_iconst (v := 0) (pc' := 68) C dX7_removes_67 rfl (by decide) ?_
            refine x_istore_n (pc' := 69) (L' := [some (.ref h), some (.int a1), some (.int 0)]) C dX7_removes_68 rfl rfl (Nat.le_of_ble_eq_true rfl) rfl ?_
            have cont92c : ∀ (S_92c : CS), RES = k_X7_removes_92c S_92c → ok_X7_removes_92c S_92c → X k 0 0 (wMo (kg k) h ad S_92c) 92 [some (.ref h), none, none] [] := by
              intro S_92c hRES hok
              unfold k_X7_removes_92c at hRES
              unfold ok_X7_removes_92c at hok
              refine x_aload_n (pc' := 93) C dX7_removes_92 rfl rfl rfl ?_
              refine x_iconst (v := 0) (pc' := 94) C dX7_removes_93 rfl (by decide) ?_
              obtain ⟨hn21, hok⟩ := hok
              refine x_RV (st := []) (st2 := [.int (f_X7_versions S_92c 0)]) (pc' := 97) C (c_X7_versions (kl k) (kg k) h ad S_92c 0 hn21) cw_X7_81 ok_X7_versions rfl (by decide) 0 rfl rfl [0, 1, 2, 3, 4, 5, 6] rfl rfl rfl (Nat.le_of_ble_eq_true rfl) (Nat.zero_le _) (Nat.zero_le _) rfl dX7_removes_94 rfl rfl ?_
              exact x_iret C (Nat.zero_le _) (Nat.zero_le _) dX7_removes_97 ⟨by rw [hRES], by rw [hRES]⟩
            have loop69c : ∀ (n69c : Nat) (S_69c : CS) (i2_69c : Nat), i2_69c ≤ 13 → 13 < i2_69c + n69c → RES = l_X7_removes_69c a1 n69c S_69c i2_69c → ol_X7_removes_69c a1 n69c S_69c i2_69c → X k 0 0 (wMo (kg k) h ad S_69c) 69 [some (.ref h), some (.int a1), some (.int (nI i2_69c))] [] := by
              intro n69c
              induction n69c with
              | zero =>
                intro S_69c i2_69c hb69c hf69c hRES hok
                omega
              | succ n69c ih69c =>
                intro S_69c i2_69c hb69c hf69c hRES hok
                rw [l_X7_removes_69c] at hRES
                rw [ol_X7_removes_69c] at hok
                refine x_iload_n (pc' := 70) C dX7_removes_69 rfl rfl rfl ?_
                refine x_bipush (v := 13) (pc' := 72) C dX7_removes_70 rfl (by decide) ?_
                refine x_icmpN_ge (tgt := 92) (pc' := 75) C i2_69c 13 dX7_removes_72 (by decide) rfl (by omega) (by omega) (fun c22 => ?_) (fun c22 => ?_)
                · rw [if_neg c22] at hRES
                  replace hok := hok.2 c22
                  refine x_forget (L' := [some (.ref h), none, none]) [0] rfl rfl ?_
                  exact cont92c S_69c hRES hok
                · rw [if_pos c22] at hRES
                  replace hok := hok.1 c22
                  refine x_aload_n (pc' := 76) C dX7_removes_75 rfl rfl rfl ?_
                  refine x_get (pc' := 79) (v := .ref (ad 0)) C 0 0 inBX7 rfl rfl (by decide) fl_X7_7 rfl rfl dX7_removes_76 rfl ?_
                  refine x_iload_n (pc' := 80) C dX7_removes_79 rfl rfl rfl ?_
                  refine x_iload_n (pc' := 81) C dX7_removes_80 rfl rfl rfl ?_
                  refine x_RS (st := [.ref (ad 0)]) (st2 := [.int (f_X7_of a1 (nI i2_69c)), .ref (ad 0)]) (pc' := 84) C (c_X7_of (kl k) (kg k) a1 (nI i2_69c)) cw_X7_32 ok_X7_of (by decide) [] rfl rfl rfl (Nat.le_of_ble_eq_true rfl) (Nat.zero_le _) (Nat.zero_le _) rfl dX7_removes_81 rfl rfl ?_
                  refine x_iconst (v := 0) (pc' := 85) C dX7_removes_84 rfl (by decide) ?_
                  obtain ⟨hn23, hok⟩ := hok
                  obtain ⟨z24, ez24⟩ : ∃ z, z = (setF S_69c 0 (upd (S_69c.2 0) ((f_X7_of a1 (nI i2_69c))).toNatClampNeg 0)) := ⟨_, rfl⟩
                  replace hRES := bd hRES z24 ez24
                  replace hok := bdP hok z24 ez24
                  refine x_iast (pc' := 86) (f := S_69c.2 0) (w' := wMo (kg k) h ad z24) C B 1 rfl hn23 dX7_removes_85 rfl (by rw [ez24]; rfl) ?_
                  refine x_iinc (pc' := 89) (v := (nI (i2_69c + 1))) (L' := [some (.ref h), some (.int a1), some (.int (nI (i2_69c + 1)))]) C dX7_removes_86 rfl rfl (nI_add i2_69c 1) (Nat.le_of_ble_eq_true rfl) rfl ?_
                  refine x_goto (tgt := 69) C dX7_removes_89 (by decide) ?_
                  exact ih69c z24 (i2_69c + 1) (by omega) (by omega) hRES hok
            exact loop69c 14 z20 0 (by omega) (by omega) hRES hok
      · rw [if_pos c5] at hRES
        replace hok := hok.1 c5
        refine x_bipush (v := (-4)) (pc' := 24) C dX7_removes_22 rfl (by decide) ?_
        exact x_iret C (Nat.zero_le _) (Nat.zero_le _) dX7_removes_24 ⟨by rw [hRES], by rw [hRES]⟩
  · rw [if_neg c2] at hRES
    replace hok := hok.2 c2
    refine x_iconst (v := (-1)) (pc' := 9) C dX7_removes_8 rfl (by decide) ?_
    exact x_iret C (Nat.zero_le _) (Nat.zero_le _) dX7_removes_9 ⟨by rw [hRES], by rw [hRES]⟩

def f_X7_becomesRoot (S : CS) (a1 : Int32) : CS := (bind1 (setF S 0 (upd (S.2 0) ((f_X7_of (f_X7_rootOf S a1) 3)).toNatClampNeg 0)) (fun z3 => (bind1 (setF z3 0 (upd (z3.2 0) ((f_X7_of a1 3)).toNatClampNeg 1)) (fun z5 => z5))))
def o_X7_becomesRoot (S : CS) (a1 : Int32) : Prop := ((o_X7_rootOf S a1) ∧ (vp_in (f_X7_of (f_X7_rootOf S a1) 3) 318 ∧ (bind1 (setF S 0 (upd (S.2 0) ((f_X7_of (f_X7_rootOf S a1) 3)).toNatClampNeg 0)) (fun z3 => (vp_in (f_X7_of a1 3) 318 ∧ (bind1 (setF z3 0 (upd (z3.2 0) ((f_X7_of a1 3)).toNatClampNeg 1)) (fun z5 => True)))))))
set_option maxRecDepth 100000 in
set_option maxHeartbeats 8000000 in
theorem c_X7_becomesRoot (l : Launch) (g : GT) (h : Nat) (ad : Nat → Nat) (S : CS) (a1 : Int32) (hok : o_X7_becomesRoot S a1) : CW l yX7_becomesRoot (.code yX7_becomesRoot cX7_becomesRoot 2 none) 4 g [.ref h, .int a1] (wMo g h ad S) none (wMo g h ad (f_X7_becomesRoot S a1)) := by
  obtain ⟨RES, hRES⟩ : ∃ z, z = (f_X7_becomesRoot S a1) := ⟨_, rfl⟩
  rw [← hRES]
  unfold f_X7_becomesRoot at hRES
  unfold o_X7_becomesRoot at hok
  refine CWx.of (nL := 2) (ret := none) (own := RX7) (cc := cX7_becomesRoot) rfl (by decide) rfl (List.forall_mem_cons.mpr ⟨rfl, (List.forall_mem_cons.mpr ⟨rfl, (fun _ h => absurd h List.not_mem_nil)⟩)⟩) (Nat.le_of_ble_eq_true rfl) ?_
  intro k C B hin hkl hkg
  subst hkl; subst hkg
  refine x_loc2 (L' := [some (.ref h), some (.int a1)]) rfl ?_
  refine x_aload_n (pc' := 1) C dX7_becomesRoot_0 rfl rfl rfl ?_
  refine x_get (pc' := 4) (v := .ref (ad 0)) C 0 0 inBX7 rfl rfl (by decide) fl_X7_7 rfl rfl dX7_becomesRoot_1 rfl ?_
  refine x_aload_n (pc' := 5) C dX7_becomesRoot_4 rfl rfl rfl ?_
  refine x_iload_n (pc' := 6) C dX7_becomesRoot_5 rfl rfl rfl ?_
  obtain ⟨hn1, hok⟩ := hok
  refine x_RV (st := [.ref (ad 0)]) (st2 := [.int (f_X7_rootOf S a1), .ref (ad 0)]) (pc' := 9) C (c_X7_rootOf (kl k) (kg k) h ad S a1 hn1) cw_X7_84 ok_X7_rootOf rfl (by decide) 0 rfl rfl [0, 1, 2, 3, 4, 5, 6] rfl rfl rfl (Nat.le_of_ble_eq_true rfl) (Nat.zero_le _) (Nat.zero_le _) rfl dX7_becomesRoot_6 rfl rfl ?_
  refine x_iconst (v := 3) (pc' := 10) C dX7_becomesRoot_9 rfl (by decide) ?_
  refine x_RS (st := [.ref (ad 0)]) (st2 := [.int (f_X7_of (f_X7_rootOf S a1) 3), .ref (ad 0)]) (pc' := 13) C (c_X7_of (kl k) (kg k) (f_X7_rootOf S a1) 3) cw_X7_32 ok_X7_of (by decide) [] rfl rfl rfl (Nat.le_of_ble_eq_true rfl) (Nat.zero_le _) (Nat.zero_le _) rfl dX7_becomesRoot_10 rfl rfl ?_
  refine x_iconst (v := 0) (pc' := 14) C dX7_becomesRoot_13 rfl (by decide) ?_
  obtain ⟨hn2, hok⟩ := hok
  obtain ⟨z3, ez3⟩ : ∃ z, z = (setF S 0 (upd (S.2 0) ((f_X7_of (f_X7_rootOf S a1) 3)).toNatClampNeg 0)) := ⟨_, rfl⟩
  replace hRES := bd hRES z3 ez3
  replace hok := bdP hok z3 ez3
  refine x_iast (pc' := 15) (f := S.2 0) (w' := wMo (kg k) h ad z3) C B 1 rfl hn2 dX7_becomesRoot_14 rfl (by rw [ez3]; rfl) ?_
  refine x_aload_n (pc' := 16) C dX7_becomesRoot_15 rfl rfl rfl ?_
  refine x_get (pc' := 19) (v := .ref (ad 0)) C 0 0 inBX7 rfl rfl (by decide) fl_X7_7 rfl rfl dX7_becomesRoot_16 rfl ?_
  refine x_iload_n (pc' := 20) C dX7_becomesRoot_19 rfl rfl rfl ?_
  refine x_iconst (v := 3) (pc' := 21) C dX7_becomesRoot_20 rfl (by decide) ?_
  refine x_RS (st := [.ref (ad 0)]) (st2 := [.int (f_X7_of a1 3), .ref (ad 0)]) (pc' := 24) C (c_X7_of (kl k) (kg k) a1 3) cw_X7_32 ok_X7_of (by decide) [] rfl rfl rfl (Nat.le_of_ble_eq_true rfl) (Nat.zero_le _) (Nat.zero_le _) rfl dX7_becomesRoot_21 rfl rfl ?_
  refine x_iconst (v := 1) (pc' := 25) C dX7_becomesRoot_24 rfl (by decide) ?_
  obtain ⟨hn4, hok⟩ := hok
  obtain ⟨z5, ez5⟩ : ∃ z, z = (setF z3 0 (upd (z3.2 0) ((f_X7_of a1 3)).toNatClampNeg 1)) := ⟨_, rfl⟩
  replace hRES := bd hRES z5 ez5
  replace hok := bdP hok z5 ez5
  refine x_iast (pc' := 26) (f := z3.2 0) (w' := wMo (kg k) h ad z5) C B 1 rfl hn4 dX7_becomesRoot_25 rfl (by rw [ez5]; rfl) ?_
  exact x_vret C (Nat.zero_le _) (Nat.zero_le _) dX7_becomesRoot_26 ⟨rfl, by rw [hRES]⟩
