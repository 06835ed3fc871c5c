set_option maxRecDepth 100000 in
set_option maxHeartbeats 8000000 in
theorem c_X3_copy (l : Launch) (g : GT) (r1 n1 : Nat) (f1 : Nat → Int32) (r2 n2 : Nat) (f2 : Nat → Int32) (hn1 : n1 < 2 ^ 31) (hn2 : n2 < 2 ^ 31) : CW l yX3_copy (.code yX3_copy cX3_copy 2 none) 1 g [.ref r1, .ref r2] ((wAr g r1 n1 f1) ++ (wAr g r2 n2 f2)) none ((wAr g r1 n1 f1) ++ (wAr g r2 n2 (f_X3_copy n1 f1 n2 f2))) := by
  refine CWx.of (nL := 2) (ret := none) (own := RX3) (cc := cX3_copy) rfl (by decide) rfl (List.forall_mem_cons.mpr ⟨rfl, (List.forall_mem_cons.mpr ⟨rfl, (fun _ h => absurd h List.not_mem_nil)⟩)⟩) (Nat.le_of_ble_eq_true rfl) ?_
  intro k C B hin hkl hkg
  subst hkl; subst hkg
  refine x_loc2 (L' := [some (.ref r1), some (.ref r2)]) rfl ?_
  refine x_aload_n (pc' := 1) C dX3_copy_0 rfl rfl rfl ?_
  refine x_iconst (v := 0) (pc' := 2) C dX3_copy_1 rfl (by decide) ?_
  refine x_aload_n (pc' := 3) C dX3_copy_2 rfl rfl rfl ?_
  refine x_iconst (v := 0) (pc' := 4) C dX3_copy_3 rfl (by decide) ?_
  refine x_aload_n (pc' := 5) C dX3_copy_4 rfl rfl rfl ?_
  refine x_alenI (pc' := 6) (v := (nI n1)) C 0 rfl rfl dX3_copy_5 rfl ?_
  refine x_aload_n (pc' := 7) C dX3_copy_6 rfl rfl rfl ?_
  refine x_alenI (pc' := 8) (v := (nI n2)) C 1 rfl rfl dX3_copy_7 rfl ?_
  refine x_min (pc' := 11) (v := nI (if n2 < n1 then n2 else n1)) C ml_X3_7 st_min in_Math co_min (by decide) (Nat.le_of_ble_eq_true rfl) (Nat.zero_le _) (Nat.zero_le _) (by
    by_cases q : n2 < n1
    · rw [if_pos q, if_pos ((nI_ltI hn2 hn1).mpr q)]
    · rw [if_neg q, if_neg (fun z => q ((nI_ltI hn2 hn1).mp z))]) dX3_copy_8 rfl ?_
  have hN0 : (if n2 < n1 then n2 else n1) ≤ n1 := by split <;> omega
  have hN1 : (if n2 < n1 then n2 else n1) ≤ n2 := by split <;> omega
  refine x_acopy (pc' := 14) (w' := (wAr (kg k) r1 n1 f1) ++ (wAr (kg k) r2 n2 (f_X3_copy n1 f1 n2 f2))) C B 0 1 ml_X3_13 na_acopy st_acopy in_System rfl rfl hN0 hN1 (by omega) (by decide) (Nat.le_of_ble_eq_true rfl) (by decide +kernel) dX3_copy_11 rfl rfl ?_
  exact x_vret C (Nat.zero_le _) (Nat.zero_le _) dX3_copy_14 ⟨rfl, rfl⟩
