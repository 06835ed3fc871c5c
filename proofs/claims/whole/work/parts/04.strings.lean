set_option maxRecDepth 100000 in
set_option maxHeartbeats 8000000 in
theorem c_J0_coder (l : Launch) (g : GT) (i : Nat) (hi : i < 5) : CR l yJ0_coder_7d493 (.code yJ0_coder_7d493 cJ0_coder_7d493 1 (some .byte)) 0 g [.ref (gK g i)] [] (some (.int 0)) := by
  refine CRx.of (nL := 1) (ret := (some .byte)) (own := RJ0) (cc := cJ0_coder_7d493) rfl (by decide) rfl (List.forall_mem_cons.mpr ⟨rfl, (fun _ h => absurd h List.not_mem_nil)⟩) (Nat.le_of_ble_eq_true rfl) ?_
  intro k C hkl hkg
  subst hkl; subst hkg
  refine x_loc2 (L' := [some (.ref (gK (kg k) i))]) rfl ?_
  refine x_gets (pc' := 3) C C.2.2.2.2.2.2.2.1.2.2.2.1 fl_J0_38 dJ0_coder_7d493_0 rfl ?_
  refine x_if_eq (tgt := 13) (pc' := 6) C dJ0_coder_7d493_3 (by decide) rfl (fun c => absurd c (by decide)) (fun _ => ?_)
  refine x_aload_n (pc' := 7) C dJ0_coder_7d493_6 rfl rfl rfl ?_
  refine x_getO (pc' := 10) C (C.2.2.2.2.2.2.2.1.2.1.1 i hi).2.1 fl_J0_15 dJ0_coder_7d493_7 rfl ?_
  refine x_goto (tgt := 14) C dJ0_coder_7d493_10 (by decide) ?_
  exact x_nret C rfl rfl (Nat.zero_le _) (Nat.zero_le _) dJ0_coder_7d493_14 rfl
set_option maxRecDepth 100000 in
set_option maxHeartbeats 8000000 in
theorem c_J0_isLatin1 (l : Launch) (g : GT) (i : Nat) (hi : i < 5) : CR l yJ0_isLatin1_aae02 (.code yJ0_isLatin1_aae02 cJ0_isLatin1_aae02 1 (some .boolean)) 0 g [.ref (gK g i)] [] (some (.int (bI true))) := by
  refine CRx.of (nL := 1) (ret := (some .boolean)) (own := RJ0) (cc := cJ0_isLatin1_aae02) rfl (by decide) rfl (List.forall_mem_cons.mpr ⟨rfl, (fun _ h => absurd h List.not_mem_nil)⟩) (Nat.le_of_ble_eq_true rfl) ?_
  intro k C hkl hkg
  subst hkl; subst hkg
  refine x_loc2 (L' := [some (.ref (gK (kg k) i))]) rfl ?_
  refine x_gets (pc' := 3) C C.2.2.2.2.2.2.2.1.2.2.2.1 fl_J0_38 dJ0_isLatin1_aae02_0 rfl ?_
  refine x_if_eq (tgt := 17) (pc' := 6) C dJ0_isLatin1_aae02_3 (by decide) rfl (fun c => absurd c (by decide)) (fun _ => ?_)
  refine x_aload_n (pc' := 7) C dJ0_isLatin1_aae02_6 rfl rfl rfl ?_
  refine x_getO (pc' := 10) C (C.2.2.2.2.2.2.2.1.2.1.1 i hi).2.1 fl_J0_15 dJ0_isLatin1_aae02_7 rfl ?_
  refine x_if_ne (tgt := 17) (pc' := 13) C dJ0_isLatin1_aae02_10 (by decide) rfl (fun c => absurd rfl c) (fun _ => ?_)
  refine x_iconst (v := 1) (pc' := 14) C dJ0_isLatin1_aae02_13 rfl (by decide) ?_
  refine x_goto (tgt := 18) C dJ0_isLatin1_aae02_14 (by decide) ?_
  exact x_zret (b := true) C (Nat.zero_le _) (Nat.zero_le _) dJ0_isLatin1_aae02_18 rfl
set_option maxRecDepth 100000 in
set_option maxHeartbeats 8000000 in
theorem c_J0_length (l : Launch) (g : GT) (i : Nat) (hi : i < 5) : CR l yJ0_length_8abf5 (.code yJ0_length_8abf5 cJ0_length_8abf5 1 (some .int)) 1 g [.ref (gK g i)] [] (some (.int (nI (lenS.getD i 0)))) := by
  refine CRx.of (nL := 1) (ret := (some .int)) (own := RJ0) (cc := cJ0_length_8abf5) rfl (by decide) rfl (List.forall_mem_cons.mpr ⟨rfl, (fun _ h => absurd h List.not_mem_nil)⟩) (Nat.le_of_ble_eq_true rfl) ?_
  intro k C hkl hkg
  subst hkl; subst hkg
  refine x_loc2 (L' := [some (.ref (gK (kg k) i))]) rfl ?_
  refine x_aload_n (pc' := 1) C dJ0_length_8abf5_0 rfl rfl rfl ?_
  refine x_getO (pc' := 4) C (C.2.2.2.2.2.2.2.1.2.1.1 i hi).2.2.1 fl_J0_9 dJ0_length_8abf5_1 rfl ?_
  refine x_tlen (pc' := 5) C (C.2.2.2.2.2.2.2.1.2.1.1 i hi).2.2.2 dJ0_length_8abf5_4 rfl ?_
  refine x_aload_n (pc' := 6) C dJ0_length_8abf5_5 rfl rfl rfl ?_
  refine x_ROv (st := [.int (nI (lenS.getD i 0))]) (st2 := [.int 0, .int (nI (lenS.getD i 0))]) (pc' := 9) C (c_J0_coder (kl k) (kg k) i hi) cw_J0_335 ok_J0_coder_7d493 rfl (by decide) (C.2.2.2.2.2.2.2.1.2.1.1 i hi).1 [] rfl rfl rfl (Nat.le_of_ble_eq_true rfl) (Nat.zero_le _) (Nat.zero_le _) rfl dJ0_length_8abf5_6 rfl rfl ?_
  refine x_ishr (pc' := 10) (v := nI (lenS.getD i 0)) C dJ0_length_8abf5_9 rfl (sb_shr0 _) ?_
  exact x_iret C (Nat.zero_le _) (Nat.zero_le _) dJ0_length_8abf5_10 rfl
set_option maxRecDepth 100000 in
set_option maxHeartbeats 8000000 in
theorem c_J3_checkIndex (l : Launch) (g : GT) (x : Int32) (n : Nat) (o : Option Nat) (hn : n < 2 ^ 31) (hx : vp_in x n) : CR l yJ3_checkIndex_8e157 (.code yJ3_checkIndex_8e157 cJ3_checkIndex_8e157 3 (some .int)) 0 g [.int x, .int (nI n), va_rf o] [] (some (.int x)) := by
  refine CRx.of (nL := 3) (ret := (some .int)) (own := RJ3) (cc := cJ3_checkIndex_8e157) rfl (by decide) rfl (List.forall_mem_cons.mpr ⟨rfl, List.forall_mem_cons.mpr ⟨rfl, List.forall_mem_cons.mpr ⟨by cases o <;> rfl, fun _ h => absurd h List.not_mem_nil⟩⟩⟩) (Nat.le_of_ble_eq_true rfl) ?_
  intro k C hkl hkg
  subst hkl; subst hkg
  obtain ⟨j, hj, rfl⟩ := vp_in_of hx hn
  refine x_loc2 (L' := [some (.int (nI j)), some (.int (nI n)), some (va_rf o)]) rfl ?_
  refine x_iload_n (pc' := 1) C dJ3_checkIndex_8e157_0 rfl rfl rfl ?_
  refine x_ifN_lt (tgt := 9) (pc' := 4) C j dJ3_checkIndex_8e157_1 (by decide) rfl (by omega) (fun c => absurd c (Nat.not_lt_zero _)) (fun _ => ?_)
  refine x_iload_n (pc' := 5) C dJ3_checkIndex_8e157_4 rfl rfl rfl ?_
  refine x_iload_n (pc' := 6) C dJ3_checkIndex_8e157_5 rfl rfl rfl ?_
  refine x_icmpN_lt (tgt := 16) (pc' := 9) C j n dJ3_checkIndex_8e157_6 (by decide) rfl (by omega) hn (fun _ => ?_) (fun c => absurd hj c)
  refine x_iload_n (pc' := 17) C dJ3_checkIndex_8e157_16 rfl rfl rfl ?_
  exact x_iret C (Nat.zero_le _) (Nat.zero_le _) dJ3_checkIndex_8e157_17 rfl
set_option maxRecDepth 100000 in
set_option maxHeartbeats 8000000 in
theorem c_J0_checkIndex (l : Launch) (g : GT) (x : Int32) (n : Nat) (hn : n < 2 ^ 31) (hx : vp_in x n) : CR l yJ0_checkIndex_df160 (.code yJ0_checkIndex_df160 cJ0_checkIndex_df160 2 none) 1 g [.int x, .int (nI n)] [] none := by
  refine CRx.of (nL := 2) (ret := none) (own := RJ0) (cc := cJ0_checkIndex_df160) rfl (by decide) rfl (List.forall_mem_cons.mpr ⟨rfl, (List.forall_mem_cons.mpr ⟨rfl, (fun _ h => absurd h List.not_mem_nil)⟩)⟩) (Nat.le_of_ble_eq_true rfl) ?_
  intro k C hkl hkg
  subst hkl; subst hkg
  refine x_loc2 (L' := [some (.int x), some (.int (nI n))]) rfl ?_
  refine x_iload_n (pc' := 1) C dJ0_checkIndex_df160_0 rfl rfl rfl ?_
  refine x_iload_n (pc' := 2) C dJ0_checkIndex_df160_1 rfl rfl rfl ?_
  refine x_getsq (pc' := 5) C C.2.2.2.2.2.2.2.1.2.2.2.2.1 fl_J0_1053 dJ0_checkIndex_df160_2 rfl (fun o => ?_)
  refine x_RS (st := []) (st2 := [.int x]) (pc' := 8) C (c_J3_checkIndex (kl k) (kg k) x n o hn hx) cw_J0_1059 ok_J3_checkIndex_8e157 (by decide) [] rfl rfl rfl (Nat.le_of_ble_eq_true rfl) (Nat.zero_le _) (Nat.zero_le _) rfl dJ0_checkIndex_df160_5 rfl rfl ?_
  refine x_pop (pc' := 9) C dJ0_checkIndex_df160_8 rfl rfl ?_
  exact x_vret C (Nat.zero_le _) (Nat.zero_le _) dJ0_checkIndex_df160_9 rfl
/-- the sign of the text i at x -/
def chS (i : Nat) (x : Int32) : Int32 := i2c ((bytS.getD i []).getD x.toNatClampNeg 0 &&& 255)
theorem lenS_lt (i : Nat) (hi : i < 5) : lenS.getD i 0 < 2 ^ 31 := by
  match i, hi with
  | 0, _ => decide
  | 1, _ => decide
  | 2, _ => decide
  | 3, _ => decide
  | 4, _ => decide
set_option maxRecDepth 100000 in
set_option maxHeartbeats 8000000 in
theorem c_J1_charAt (l : Launch) (g : GT) (i : Nat) (x : Int32) (hi : i < 5) (hx : vp_in x (lenS.getD i 0)) : CR l yJ1_charAt_3b067 (.code yJ1_charAt_3b067 cJ1_charAt_3b067 2 (some .char)) 2 g [.ref (gW g i), .int x] [] (some (.int (chS i x))) := by
  refine CRx.of (nL := 2) (ret := (some .char)) (own := RJ1) (cc := cJ1_charAt_3b067) rfl (by decide) rfl (List.forall_mem_cons.mpr ⟨rfl, (List.forall_mem_cons.mpr ⟨rfl, (fun _ h => absurd h List.not_mem_nil)⟩)⟩) (Nat.le_of_ble_eq_true rfl) ?_
  intro k C hkl hkg
  subst hkl; subst hkg
  have hT := (C.2.2.2.2.2.2.2.1.2.1.1 i hi).2.2.2
  refine x_loc2 (L' := [some (.ref (gW (kg k) i)), some (.int x)]) rfl ?_
  refine x_iload_n (pc' := 1) C dJ1_charAt_3b067_0 rfl rfl rfl ?_
  refine x_aload_n (pc' := 2) C dJ1_charAt_3b067_1 rfl rfl rfl ?_
  refine x_tlen (pc' := 3) C hT dJ1_charAt_3b067_2 rfl ?_
  refine x_RS (st := []) (st2 := []) (pc' := 6) C (c_J0_checkIndex (kl k) (kg k) x _ (lenS_lt i hi) hx) cw_J1_9 ok_J0_checkIndex_df160 (by decide) [] rfl rfl rfl (Nat.le_of_ble_eq_true rfl) (Nat.zero_le _) (Nat.zero_le _) rfl dJ1_charAt_3b067_3 rfl rfl ?_
  refine x_aload_n (pc' := 7) C dJ1_charAt_3b067_6 rfl rfl rfl ?_
  refine x_iload_n (pc' := 8) C dJ1_charAt_3b067_7 rfl rfl rfl ?_
  refine x_tb (pc' := 9) C hT hx rfl dJ1_charAt_3b067_8 rfl ?_
  refine x_sipush (v := 255) (pc' := 12) C dJ1_charAt_3b067_9 rfl (by decide) ?_
  refine x_iand (pc' := 13) (v := ((bytS.getD i []).getD x.toNatClampNeg 0 &&& 255)) C dJ1_charAt_3b067_12 rfl rfl ?_
  refine x_i2c (pc' := 14) (v := chS i x) C dJ1_charAt_3b067_13 rfl rfl ?_
  exact x_nret C rfl (pk_nc _) (Nat.zero_le _) (Nat.zero_le _) dJ1_charAt_3b067_14 rfl
set_option maxRecDepth 100000 in
set_option maxHeartbeats 8000000 in
theorem c_J0_charAt (l : Launch) (g : GT) (i : Nat) (x : Int32) (hi : i < 5) (hx : vp_in x (lenS.getD i 0)) : CR l yJ0_charAt_5068e (.code yJ0_charAt_5068e cJ0_charAt_5068e 2 (some .char)) 3 g [.ref (gK g i), .int x] [] (some (.int (chS i x))) := by
  refine CRx.of (nL := 2) (ret := (some .char)) (own := RJ0) (cc := cJ0_charAt_5068e) rfl (by decide) rfl (List.forall_mem_cons.mpr ⟨rfl, (List.forall_mem_cons.mpr ⟨rfl, (fun _ h => absurd h List.not_mem_nil)⟩)⟩) (Nat.le_of_ble_eq_true rfl) ?_
  intro k C hkl hkg
  subst hkl; subst hkg
  refine x_loc2 (L' := [some (.ref (gK (kg k) i)), some (.int x)]) rfl ?_
  refine x_aload_n (pc' := 1) C dJ0_charAt_5068e_0 rfl rfl rfl ?_
  refine x_ROv (st := []) (st2 := [.int (bI true)]) (pc' := 4) C (c_J0_isLatin1 (kl k) (kg k) i hi) cw_J0_492 ok_J0_isLatin1_aae02 rfl (by decide) (C.2.2.2.2.2.2.2.1.2.1.1 i hi).1 [] rfl rfl rfl (Nat.le_of_ble_eq_true rfl) (Nat.zero_le _) (Nat.zero_le _) rfl dJ0_charAt_5068e_1 rfl rfl ?_
  refine x_ifB_eq (tgt := 16) (pc' := 7) C dJ0_charAt_5068e_4 (by decide) rfl (fun c => absurd rfl c) (fun _ => ?_)
  refine x_aload_n (pc' := 8) C dJ0_charAt_5068e_7 rfl rfl rfl ?_
  refine x_getO (pc' := 11) C (C.2.2.2.2.2.2.2.1.2.1.1 i hi).2.2.1 fl_J0_9 dJ0_charAt_5068e_8 rfl ?_
  refine x_iload_n (pc' := 12) C dJ0_charAt_5068e_11 rfl rfl rfl ?_
  refine x_RS (st := []) (st2 := [.int (chS i x)]) (pc' := 15) C (c_J1_charAt (kl k) (kg k) i x hi hx) cw_J0_495 ok_J1_charAt_3b067 (by decide) [] rfl rfl rfl (Nat.le_of_ble_eq_true rfl) (Nat.zero_le _) (Nat.zero_le _) rfl dJ0_charAt_5068e_12 rfl rfl ?_
  exact x_nret C rfl (pk_nc _) (Nat.zero_le _) (Nat.zero_le _) dJ0_charAt_5068e_15 rfl
set_option maxRecDepth 100000 in
set_option maxHeartbeats 8000000 in
theorem c_X3_copy (l : Launch) (g : GT) (r1 n1 : Nat) (f1 : Nat → Int32) (r2 n2 : Nat) (f2 : Nat → Int32) (hn1 : n1 < 2 ^ 31) (hn2 : n2 < 2 ^ 31) : CW l yX3_copy (.code yX3_copy cX3_copy 2 none) 1 g [.ref r1, .ref r2] ((wAr g r1 n1 f1) ++ (wAr g r2 n2 f2)) none ((wAr g r1 n1 f1) ++ (wAr g r2 n2 (f_X3_copy n1 f1 n2 f2))) := by
  refine CWx.of (nL := 2) (ret := none) (own := RX3) (cc := cX3_copy) rfl (by decide) rfl (List.forall_mem_cons.mpr ⟨rfl, (List.forall_mem_cons.mpr ⟨rfl, (fun _ h => absurd h List.not_mem_nil)⟩)⟩) (Nat.le_of_ble_eq_true rfl) ?_
  intro k C B hin hkl hkg
  subst hkl; subst hkg
  refine x_loc2 (L' := [some (.ref r1), some (.ref r2)]) rfl ?_
  refine x_aload_n (pc' := 1) C dX3_copy_0 rfl rfl rfl ?_
  refine x_iconst (v := 0) (pc' := 2) C dX3_copy_1 rfl (by decide) ?_
  refine x_aload_n (pc' := 3) C dX3_copy_2 rfl rfl rfl ?_
  refine x_iconst (v := 0) (pc' := 4) C dX3_copy_3 rfl (by decide) ?_
  refine x_aload_n (pc' := 5) C dX3_copy_4 rfl rfl rfl ?_
  refine x_alenI (pc' := 6) (v := (nI n1)) C 0 rfl rfl dX3_copy_5 rfl ?_
  refine x_aload_n (pc' := 7) C dX3_copy_6 rfl rfl rfl ?_
  refine x_alenI (pc' := 8) (v := (nI n2)) C 1 rfl rfl dX3_copy_7 rfl ?_
  refine x_min (pc' := 11) (v := nI (if n2 < n1 then n2 else n1)) C ml_X3_7 st_min in_Math co_min (by decide) (Nat.le_of_ble_eq_true rfl) (Nat.zero_le _) (Nat.zero_le _) (by
    by_cases q : n2 < n1
    · rw [if_pos q, if_pos ((nI_ltI hn2 hn1).mpr q)]
    · rw [if_neg q, if_neg (fun z => q ((nI_ltI hn2 hn1).mp z))]) dX3_copy_8 rfl ?_
  have hN0 : (if n2 < n1 then n2 else n1) ≤ n1 := by split <;> omega
  have hN1 : (if n2 < n1 then n2 else n1) ≤ n2 := by split <;> omega
  refine x_acopy (pc' := 14) (w' := (wAr (kg k) r1 n1 f1) ++ (wAr (kg k) r2 n2 (f_X3_copy n1 f1 n2 f2))) C B 0 1 ml_X3_13 na_acopy st_acopy in_System rfl rfl hN0 hN1 (by omega) (by decide) (Nat.le_of_ble_eq_true rfl) (by decide +kernel) dX3_copy_11 rfl rfl ?_
  exact x_vret C (Nat.zero_le _) (Nat.zero_le _) dX3_copy_14 ⟨rfl, rfl⟩
