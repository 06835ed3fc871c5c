theorem ml_X6_1 : Cond.methodLink RX6 1 objectInit ∈ BIG := tb_1 16 rfl rfl
def initSt : CS := (fun j => if j = 0 then 1 else if j = 2 then 1 else if j = 7 then 1 else if j = 8 then 6 else 0, fun _ _ => 0)
def initZ : CS := (fun _ => 0, fun _ _ => 0)
def initHS : HS := ((0, fun i => i), fun _ => initSt)
set_option maxRecDepth 100000 in
set_option maxHeartbeats 8000000 in
theorem c_X5_init (l : Launch) (g : GT) (h : Nat) : CWx l yX5_init (.code yX5_init cX5_init 1 none) 1 4 264 g [.ref h] [(h, .inr (3, [.int 0, .int 0, .int 0, .null, .null, .null, .null, .int 0, .int 0, .int 0, .int 0, .int 0, .int 0]))] (fun v u => v = none ∧ ∃ ad : Nat → Nat, u = wSt g h ad initSt) := by
  refine CWx.of (nL := 1) (ret := none) (own := RX5) (cc := cX5_init) rfl (by decide) rfl (List.forall_mem_cons.mpr ⟨rfl, (fun _ h => absurd h List.not_mem_nil)⟩) (Nat.le_of_ble_eq_true rfl) ?_
  intro k C B hin hkl hkg
  subst hkl; subst hkg
  have hini := hin rfl
  refine x_loc2 (L' := [some (.ref h)]) rfl ?_
  refine x_aload_n (pc' := 1) C dX5_init_0 rfl rfl rfl ?_
  refine x_objInit (pc' := 4) C ml_X5_3 im_obj co_obj (by decide) (Nat.le_of_ble_eq_true rfl) dX5_init_1 rfl ?_
  refine x_aload_n (pc' := 5) C dX5_init_4 rfl rfl rfl ?_
  refine x_iconst (v := 1) (pc' := 6) C dX5_init_5 rfl (by decide) ?_
  refine x_put (pc' := 9) (w' := [(h, .inr (3, [.int 1, .int 0, .int 0, .null, .null, .null, .null, .int 0, .int 0, .int 0, .int 0, .int 0, .int 0]))]) (ty := .int) C B 0 0 inBX5 tyX5 tyX5_ok nmX5 rfl rfl (by decide) fl_X5_9 rfl rfl rfl rfl rfl (Nat.le_of_ble_eq_true rfl) dX5_init_6 rfl rfl ?_
  refine x_aload_n (pc' := 10) C dX5_init_9 rfl rfl rfl ?_
  refine x_iconst (v := 1) (pc' := 11) C dX5_init_10 rfl (by decide) ?_
  refine x_put (pc' := 14) (w' := [(h, .inr (3, [.int 1, .int 0, .int 1, .null, .null, .null, .null, .int 0, .int 0, .int 0, .int 0, .int 0, .int 0]))]) (ty := .int) C B 0 2 inBX5 tyX5 tyX5_ok nmX5 rfl rfl (by decide) fl_X5_15 rfl rfl rfl rfl rfl (Nat.le_of_ble_eq_true rfl) dX5_init_11 rfl rfl ?_
  refine x_aload_n (pc' := 15) C dX5_init_14 rfl rfl rfl ?_
  refine x_bipush (v := (nI 24)) (pc' := 17) C dX5_init_15 rfl (by decide) ?_
  refine x_newI (pc' := 19) C B 24 rfl (by decide) (by decide) (by decide) (by decide) dX5_init_17 rfl (fun q1 => ?_)
  refine x_loc (w' := [(h, .inr (3, [.int 1, .int 0, .int 1, .null, .null, .null, .null, .int 0, .int 0, .int 0, .int 0, .int 0, .int 0])), (q1, .inl (gI (kg k), (24, .inl (fun _ => 0))))]) rfl ?_
  refine x_putF (pc' := 22) (w' := [(h, .inr (3, [.int 1, .int 0, .int 1, .ref q1, .null, .null, .null, .int 0, .int 0, .int 0, .int 0, .int 0, .int 0])), (q1, .inl (gI (kg k), (24, .inl (fun _ => 0))))]) (ty := (.array .int)) C B hini 0 3 inBX5 tyX5 tyX5_ok nmX5 rfl rfl (by decide) fl_X5_18 rfl rfl rfl rfl rfl rfl (Nat.le_of_ble_eq_true rfl) dX5_init_19 rfl rfl ?_
  refine x_aload_n (pc' := 23) C dX5_init_22 rfl rfl rfl ?_
  refine x_bipush (v := (nI 24)) (pc' := 25) C dX5_init_23 rfl (by decide) ?_
  refine x_newI (pc' := 27) C B 24 rfl (by decide) (by decide) (by decide) (by decide) dX5_init_25 rfl (fun q2 => ?_)
  refine x_loc (w' := [(h, .inr (3, [.int 1, .int 0, .int 1, .ref q1, .null, .null, .null, .int 0, .int 0, .int 0, .int 0, .int 0, .int 0])), (q1, .inl (gI (kg k), (24, .inl (fun _ => 0)))), (q2, .inl (gI (kg k), (24, .inl (fun _ => 0))))]) rfl ?_
  refine x_putF (pc' := 30) (w' := [(h, .inr (3, [.int 1, .int 0, .int 1, .ref q1, .ref q2, .null, .null, .int 0, .int 0, .int 0, .int 0, .int 0, .int 0])), (q1, .inl (gI (kg k), (24, .inl (fun _ => 0)))), (q2, .inl (gI (kg k), (24, .inl (fun _ => 0))))]) (ty := (.array .int)) C B hini 0 4 inBX5 tyX5 tyX5_ok nmX5 rfl rfl (by decide) fl_X5_22 rfl rfl rfl rfl rfl rfl (Nat.le_of_ble_eq_true rfl) dX5_init_27 rfl rfl ?_
  refine x_aload_n (pc' := 31) C dX5_init_30 rfl rfl rfl ?_
  refine x_bipush (v := (nI 24)) (pc' := 33) C dX5_init_31 rfl (by decide) ?_
  refine x_newI (pc' := 35) C B 24 rfl (by decide) (by decide) (by decide) (by decide) dX5_init_33 rfl (fun q3 => ?_)
  refine x_loc (w' := [(h, .inr (3, [.int 1, .int 0, .int 1, .ref q1, .ref q2, .null, .null, .int 0, .int 0, .int 0, .int 0, .int 0, .int 0])), (q1, .inl (gI (kg k), (24, .inl (fun _ => 0)))), (q2, .inl (gI (kg k), (24, .inl (fun _ => 0)))), (q3, .inl (gI (kg k), (24, .inl (fun _ => 0))))]) rfl ?_
  refine x_putF (pc' := 38) (w' := [(h, .inr (3, [.int 1, .int 0, .int 1, .ref q1, .ref q2, .ref q3, .null, .int 0, .int 0, .int 0, .int 0, .int 0, .int 0])), (q1, .inl (gI (kg k), (24, .inl (fun _ => 0)))), (q2, .inl (gI (kg k), (24, .inl (fun _ => 0)))), (q3, .inl (gI (kg k), (24, .inl (fun _ => 0))))]) (ty := (.array .int)) C B hini 0 5 inBX5 tyX5 tyX5_ok nmX5 rfl rfl (by decide) fl_X5_25 rfl rfl rfl rfl rfl rfl (Nat.le_of_ble_eq_true rfl) dX5_init_35 rfl rfl ?_
  refine x_aload_n (pc' := 39) C dX5_init_38 rfl rfl rfl ?_
  refine x_sipush (v := (nI 192)) (pc' := 42) C dX5_init_39 rfl (by decide) ?_
  refine x_newI (pc' := 44) C B 192 rfl (by decide) (by decide) (by decide) (by decide) dX5_init_42 rfl (fun q4 => ?_)
  refine x_loc (w' := [(h, .inr (3, [.int 1, .int 0, .int 1, .ref q1, .ref q2, .ref q3, .null, .int 0, .int 0, .int 0, .int 0, .int 0, .int 0])), (q1, .inl (gI (kg k), (24, .inl (fun _ => 0)))), (q2, .inl (gI (kg k), (24, .inl (fun _ => 0)))), (q3, .inl (gI (kg k), (24, .inl (fun _ => 0)))), (q4, .inl (gI (kg k), (192, .inl (fun _ => 0))))]) rfl ?_
  refine x_putF (pc' := 47) (w' := [(h, .inr (3, [.int 1, .int 0, .int 1, .ref q1, .ref q2, .ref q3, .ref q4, .int 0, .int 0, .int 0, .int 0, .int 0, .int 0])), (q1, .inl (gI (kg k), (24, .inl (fun _ => 0)))), (q2, .inl (gI (kg k), (24, .inl (fun _ => 0)))), (q3, .inl (gI (kg k), (24, .inl (fun _ => 0)))), (q4, .inl (gI (kg k), (192, .inl (fun _ => 0))))]) (ty := (.array .int)) C B hini 0 6 inBX5 tyX5 tyX5_ok nmX5 rfl rfl (by decide) fl_X5_28 rfl rfl rfl rfl rfl rfl (Nat.le_of_ble_eq_true rfl) dX5_init_44 rfl rfl ?_
  refine x_aload_n (pc' := 48) C dX5_init_47 rfl rfl rfl ?_
  refine x_iconst (v := 1) (pc' := 49) C dX5_init_48 rfl (by decide) ?_
  refine x_put (pc' := 52) (w' := [(h, .inr (3, [.int 1, .int 0, .int 1, .ref q1, .ref q2, .ref q3, .ref q4, .int 1, .int 0, .int 0, .int 0, .int 0, .int 0])), (q1, .inl (gI (kg k), (24, .inl (fun _ => 0)))), (q2, .inl (gI (kg k), (24, .inl (fun _ => 0)))), (q3, .inl (gI (kg k), (24, .inl (fun _ => 0)))), (q4, .inl (gI (kg k), (192, .inl (fun _ => 0))))]) (ty := .int) C B 0 7 inBX5 tyX5 tyX5_ok nmX5 rfl rfl (by decide) fl_X5_31 rfl rfl rfl rfl rfl (Nat.le_of_ble_eq_true rfl) dX5_init_49 rfl rfl ?_
  refine x_aload_n (pc' := 53) C dX5_init_52 rfl rfl rfl ?_
  refine x_bipush (v := 6) (pc' := 55) C dX5_init_53 rfl (by decide) ?_
  refine x_put (pc' := 58) (w' := [(h, .inr (3, [.int 1, .int 0, .int 1, .ref q1, .ref q2, .ref q3, .ref q4, .int 1, .int 6, .int 0, .int 0, .int 0, .int 0])), (q1, .inl (gI (kg k), (24, .inl (fun _ => 0)))), (q2, .inl (gI (kg k), (24, .inl (fun _ => 0)))), (q3, .inl (gI (kg k), (24, .inl (fun _ => 0)))), (q4, .inl (gI (kg k), (192, .inl (fun _ => 0))))]) (ty := .int) C B 0 8 inBX5 tyX5 tyX5_ok nmX5 rfl rfl (by decide) fl_X5_34 rfl rfl rfl rfl rfl (Nat.le_of_ble_eq_true rfl) dX5_init_55 rfl rfl ?_
  exact x_vret C (by decide) (by decide) dX5_init_58 ⟨rfl, (fun x => if x = 3 then q1 else if x = 4 then q2 else if x = 5 then q3 else q4), rfl⟩

set_option maxRecDepth 100000 in
set_option maxHeartbeats 8000000 in
theorem c_X2_init (l : Launch) (g : GT) (h : Nat) : CWx l yX2_init (.code yX2_init cX2_init 1 none) 1 3 72 g [.ref h] [(h, .inr (2, [.int 0, .null, .null, .null]))] (fun v u => v = none ∧ ∃ ad : Nat → Nat, u = wRe g h ad initZ) := by
  refine CWx.of (nL := 1) (ret := none) (own := RX2) (cc := cX2_init) rfl (by decide) rfl (List.forall_mem_cons.mpr ⟨rfl, (fun _ h => absurd h List.not_mem_nil)⟩) (Nat.le_of_ble_eq_true rfl) ?_
  intro k C B hin hkl hkg
  subst hkl; subst hkg
  have hini := hin rfl
  refine x_loc2 (L' := [some (.ref h)]) rfl ?_
  refine x_aload_n (pc' := 1) C dX2_init_0 rfl rfl rfl ?_
  refine x_objInit (pc' := 4) C ml_X2_3 im_obj co_obj (by decide) (Nat.le_of_ble_eq_true rfl) dX2_init_1 rfl ?_
  refine x_aload_n (pc' := 5) C dX2_init_4 rfl rfl rfl ?_
  refine x_bipush (v := (nI 24)) (pc' := 7) C dX2_init_5 rfl (by decide) ?_
  refine x_newI (pc' := 9) C B 24 rfl (by decide) (by decide) (by decide) (by decide) dX2_init_7 rfl (fun q1 => ?_)
  refine x_loc (w' := [(h, .inr (2, [.int 0, .null, .null, .null])), (q1, .inl (gI (kg k), (24, .inl (fun _ => 0))))]) rfl ?_
  refine x_putF (pc' := 12) (w' := [(h, .inr (2, [.int 0, .ref q1, .null, .null])), (q1, .inl (gI (kg k), (24, .inl (fun _ => 0))))]) (ty := (.array .int)) C B hini 0 1 inBX2 tyX2 tyX2_ok nmX2 rfl rfl (by decide) fl_X2_9 rfl rfl rfl rfl rfl rfl (Nat.le_of_ble_eq_true rfl) dX2_init_9 rfl rfl ?_
  refine x_aload_n (pc' := 13) C dX2_init_12 rfl rfl rfl ?_
  refine x_bipush (v := (nI 24)) (pc' := 15) C dX2_init_13 rfl (by decide) ?_
  refine x_newI (pc' := 17) C B 24 rfl (by decide) (by decide) (by decide) (by decide) dX2_init_15 rfl (fun q2 => ?_)
  refine x_loc (w' := [(h, .inr (2, [.int 0, .ref q1, .null, .null])), (q1, .inl (gI (kg k), (24, .inl (fun _ => 0)))), (q2, .inl (gI (kg k), (24, .inl (fun _ => 0))))]) rfl ?_
  refine x_putF (pc' := 20) (w' := [(h, .inr (2, [.int 0, .ref q1, .ref q2, .null])), (q1, .inl (gI (kg k), (24, .inl (fun _ => 0)))), (q2, .inl (gI (kg k), (24, .inl (fun _ => 0))))]) (ty := (.array .int)) C B hini 0 2 inBX2 tyX2 tyX2_ok nmX2 rfl rfl (by decide) fl_X2_15 rfl rfl rfl rfl rfl rfl (Nat.le_of_ble_eq_true rfl) dX2_init_17 rfl rfl ?_
  refine x_aload_n (pc' := 21) C dX2_init_20 rfl rfl rfl ?_
  refine x_bipush (v := (nI 24)) (pc' := 23) C dX2_init_21 rfl (by decide) ?_
  refine x_newI (pc' := 25) C B 24 rfl (by decide) (by decide) (by decide) (by decide) dX2_init_23 rfl (fun q3 => ?_)
  refine x_loc (w' := [(h, .inr (2, [.int 0, .ref q1, .ref q2, .null])), (q1, .inl (gI (kg k), (24, .inl (fun _ => 0)))), (q2, .inl (gI (kg k), (24, .inl (fun _ => 0)))), (q3, .inl (gI (kg k), (24, .inl (fun _ => 0))))]) rfl ?_
  refine x_putF (pc' := 28) (w' := [(h, .inr (2, [.int 0, .ref q1, .ref q2, .ref q3])), (q1, .inl (gI (kg k), (24, .inl (fun _ => 0)))), (q2, .inl (gI (kg k), (24, .inl (fun _ => 0)))), (q3, .inl (gI (kg k), (24, .inl (fun _ => 0))))]) (ty := (.array .int)) C B hini 0 3 inBX2 tyX2 tyX2_ok nmX2 rfl rfl (by decide) fl_X2_18 rfl rfl rfl rfl rfl rfl (Nat.le_of_ble_eq_true rfl) dX2_init_25 rfl rfl ?_
  exact x_vret C (by decide) (by decide) dX2_init_28 ⟨rfl, (fun x => if x = 1 then q1 else if x = 2 then q2 else q3), rfl⟩

set_option maxRecDepth 100000 in
set_option maxHeartbeats 8000000 in
theorem c_X1_init (l : Launch) (g : GT) (h : Nat) : CWx l yX1_init (.code yX1_init cX1_init 1 none) 1 5 144 g [.ref h] [(h, .inr (1, [.null, .int 0, .int 0, .int 0, .null, .null, .null, .null]))] (fun v u => v = none ∧ ∃ ad : Nat → Nat, u = wOr g h ad initZ) := by
  refine CWx.of (nL := 1) (ret := none) (own := RX1) (cc := cX1_init) rfl (by decide) rfl (List.forall_mem_cons.mpr ⟨rfl, (fun _ h => absurd h List.not_mem_nil)⟩) (Nat.le_of_ble_eq_true rfl) ?_
  intro k C B hin hkl hkg
  subst hkl; subst hkg
  have hini := hin rfl
  refine x_loc2 (L' := [some (.ref h)]) rfl ?_
  refine x_aload_n (pc' := 1) C dX1_init_0 rfl rfl rfl ?_
  refine x_objInit (pc' := 4) C ml_X1_3 im_obj co_obj (by decide) (Nat.le_of_ble_eq_true rfl) dX1_init_1 rfl ?_
  refine x_aload_n (pc' := 5) C dX1_init_4 rfl rfl rfl ?_
  refine x_bipush (v := (nI 80)) (pc' := 7) C dX1_init_5 rfl (by decide) ?_
  refine x_newC (pc' := 9) C B 80 rfl (by decide) (by decide) (by decide) (by decide) dX1_init_7 rfl (fun q1 => ?_)
  refine x_loc (w' := [(h, .inr (1, [.null, .int 0, .int 0, .int 0, .null, .null, .null, .null])), (q1, .inl (gC (kg k), (80, .inl (fun _ => 0))))]) rfl ?_
  refine x_putF (pc' := 12) (w' := [(h, .inr (1, [.ref q1, .int 0, .int 0, .int 0, .null, .null, .null, .null])), (q1, .inl (gC (kg k), (80, .inl (fun _ => 0))))]) (ty := (.array .char)) C B hini 0 0 inBX1 tyX1 tyX1_ok nmX1 rfl rfl (by decide) fl_X1_9 rfl rfl rfl rfl rfl rfl (Nat.le_of_ble_eq_true rfl) dX1_init_9 rfl rfl ?_
  refine x_aload_n (pc' := 13) C dX1_init_12 rfl rfl rfl ?_
  refine x_bipush (v := (nI 16)) (pc' := 15) C dX1_init_13 rfl (by decide) ?_
  refine x_newI (pc' := 17) C B 16 rfl (by decide) (by decide) (by decide) (by decide) dX1_init_15 rfl (fun q2 => ?_)
  refine x_loc (w' := [(h, .inr (1, [.ref q1, .int 0, .int 0, .int 0, .null, .null, .null, .null])), (q1, .inl (gC (kg k), (80, .inl (fun _ => 0)))), (q2, .inl (gI (kg k), (16, .inl (fun _ => 0))))]) rfl ?_
  refine x_putF (pc' := 20) (w' := [(h, .inr (1, [.ref q1, .int 0, .int 0, .int 0, .ref q2, .null, .null, .null])), (q1, .inl (gC (kg k), (80, .inl (fun _ => 0)))), (q2, .inl (gI (kg k), (16, .inl (fun _ => 0))))]) (ty := (.array .int)) C B hini 0 4 inBX1 tyX1 tyX1_ok nmX1 rfl rfl (by decide) fl_X1_15 rfl rfl rfl rfl rfl rfl (Nat.le_of_ble_eq_true rfl) dX1_init_17 rfl rfl ?_
  refine x_aload_n (pc' := 21) C dX1_init_20 rfl rfl rfl ?_
  refine x_bipush (v := (nI 16)) (pc' := 23) C dX1_init_21 rfl (by decide) ?_
  refine x_newI (pc' := 25) C B 16 rfl (by decide) (by decide) (by decide) (by decide) dX1_init_23 rfl (fun q3 => ?_)
  refine x_loc (w' := [(h, .inr (1, [.ref q1, .int 0, .int 0, .int 0, .ref q2, .null, .null, .null])), (q1, .inl (gC (kg k), (80, .inl (fun _ => 0)))), (q2, .inl (gI (kg k), (16, .inl (fun _ => 0)))), (q3, .inl (gI (kg k), (16, .inl (fun _ => 0))))]) rfl ?_
  refine x_putF (pc' := 28) (w' := [(h, .inr (1, [.ref q1, .int 0, .int 0, .int 0, .ref q2, .ref q3, .null, .null])), (q1, .inl (gC (kg k), (80, .inl (fun _ => 0)))), (q2, .inl (gI (kg k), (16, .inl (fun _ => 0)))), (q3, .inl (gI (kg k), (16, .inl (fun _ => 0))))]) (ty := (.array .int)) C B hini 0 5 inBX1 tyX1 tyX1_ok nmX1 rfl rfl (by decide) fl_X1_19 rfl rfl rfl rfl rfl rfl (Nat.le_of_ble_eq_true rfl) dX1_init_25 rfl rfl ?_
  refine x_aload_n (pc' := 29) C dX1_init_28 rfl rfl rfl ?_
  refine x_bipush (v := (nI 16)) (pc' := 31) C dX1_init_29 rfl (by decide) ?_
  refine x_newI (pc' := 33) C B 16 rfl (by decide) (by decide) (by decide) (by decide) dX1_init_31 rfl (fun q4 => ?_)
  refine x_loc (w' := [(h, .inr (1, [.ref q1, .int 0, .int 0, .int 0, .ref q2, .ref q3, .null, .null])), (q1, .inl (gC (kg k), (80, .inl (fun _ => 0)))), (q2, .inl (gI (kg k), (16, .inl (fun _ => 0)))), (q3, .inl (gI (kg k), (16, .inl (fun _ => 0)))), (q4, .inl (gI (kg k), (16, .inl (fun _ => 0))))]) rfl ?_
  refine x_putF (pc' := 36) (w' := [(h, .inr (1, [.ref q1, .int 0, .int 0, .int 0, .ref q2, .ref q3, .ref q4, .null])), (q1, .inl (gC (kg k), (80, .inl (fun _ => 0)))), (q2, .inl (gI (kg k), (16, .inl (fun _ => 0)))), (q3, .inl (gI (kg k), (16, .inl (fun _ => 0)))), (q4, .inl (gI (kg k), (16, .inl (fun _ => 0))))]) (ty := (.array .int)) C B hini 0 6 inBX1 tyX1 tyX1_ok nmX1 rfl rfl (by decide) fl_X1_22 rfl rfl rfl rfl rfl rfl (Nat.le_of_ble_eq_true rfl) dX1_init_33 rfl rfl ?_
  refine x_aload_n (pc' := 37) C dX1_init_36 rfl rfl rfl ?_
  refine x_bipush (v := (nI 16)) (pc' := 39) C dX1_init_37 rfl (by decide) ?_
  refine x_newI (pc' := 41) C B 16 rfl (by decide) (by decide) (by decide) (by decide) dX1_init_39 rfl (fun q5 => ?_)
  refine x_loc (w' := [(h, .inr (1, [.ref q1, .int 0, .int 0, .int 0, .ref q2, .ref q3, .ref q4, .null])), (q1, .inl (gC (kg k), (80, .inl (fun _ => 0)))), (q2, .inl (gI (kg k), (16, .inl (fun _ => 0)))), (q3, .inl (gI (kg k), (16, .inl (fun _ => 0)))), (q4, .inl (gI (kg k), (16, .inl (fun _ => 0)))), (q5, .inl (gI (kg k), (16, .inl (fun _ => 0))))]) rfl ?_
  refine x_putF (pc' := 44) (w' := [(h, .inr (1, [.ref q1, .int 0, .int 0, .int 0, .ref q2, .ref q3, .ref q4, .ref q5])), (q1, .inl (gC (kg k), (80, .inl (fun _ => 0)))), (q2, .inl (gI (kg k), (16, .inl (fun _ => 0)))), (q3, .inl (gI (kg k), (16, .inl (fun _ => 0)))), (q4, .inl (gI (kg k), (16, .inl (fun _ => 0)))), (q5, .inl (gI (kg k), (16, .inl (fun _ => 0))))]) (ty := (.array .int)) C B hini 0 7 inBX1 tyX1 tyX1_ok nmX1 rfl rfl (by decide) fl_X1_25 rfl rfl rfl rfl rfl rfl (Nat.le_of_ble_eq_true rfl) dX1_init_41 rfl rfl ?_
  exact x_vret C (by decide) (by decide) dX1_init_44 ⟨rfl, (fun x => if x = 0 then q1 else if x = 4 then q2 else if x = 5 then q3 else if x = 6 then q4 else q5), rfl⟩

def rfH4 (ad : Nat → Nat) : Nat → Option Nat := fun i => if i < 4 then some (ad (1 + i)) else none
def wHi0 (g : GT) (h : Nat) (ad : Nat → Nat) : va_W := wHf g h ad 0 (rfH4 ad) (fun _ => initSt)
set_option maxRecDepth 100000 in
set_option maxHeartbeats 8000000 in
theorem c_X0_init (l : Launch) (g : GT) (h : Nat) : CWx l yX0_init (.code yX0_init cX0_init 2 none) 2 21 1112 g [.ref h] (cat [[(h, .inr (0, [.null, .int 0]))]]) (fun v u => v = none ∧ ∃ ad : Nat → Nat, u = wHi0 g h ad) := by
  refine CWx.of (nL := 2) (ret := none) (own := RX0) (cc := cX0_init) rfl (by decide) rfl (List.forall_mem_cons.mpr ⟨rfl, (fun _ h => absurd h List.not_mem_nil)⟩) (Nat.le_of_ble_eq_true rfl) ?_
  intro k C B hin hkl hkg
  subst hkl; subst hkg
  have hini := hin rfl
  refine x_loc2 (L' := [some (.ref h), none]) rfl ?_
  refine x_aload_n (pc' := 1) C dX0_init_0 rfl rfl rfl ?_
  refine x_objInit (pc' := 4) C ml_X0_3 im_obj co_obj (by decide) (Nat.le_of_ble_eq_true rfl) dX0_init_1 rfl ?_
  refine x_aload_n (pc' := 5) C dX0_init_4 rfl rfl rfl ?_
  refine x_iconst (v := nI 4) (pc' := 6) C dX0_init_5 rfl (by decide) ?_
  refine x_newQ (pc' := 9) C B 4 rfl (by decide) (by decide) cl_X0_9 (by decide) (by decide) dX0_init_6 rfl (fun q0 => ?_)
  refine x_loc (w' := cat [[(h, .inr (0, [.null, .int 0]))], [(q0, .inl (gQ (kg k), (4, .inr (.inr (.inr (.inr (fun _ => none)))))))]]) rfl ?_
  refine x_putF (pc' := 12) (w' := cat [[(h, .inr (0, [.ref q0, .int 0]))], [(q0, .inl (gQ (kg k), (4, .inr (.inr (.inr (.inr (fun _ => none)))))))]]) (ty := (.array (.object "RootedDeltas$State"))) C B hini 0 0 inBX0 tyX0 tyX0_ok nmX0 rfl rfl (by decide) fl_X0_11 rfl rfl rfl rfl rfl rfl (Nat.le_of_ble_eq_true rfl) dX0_init_9 rfl rfl ?_
  refine x_iconst (v := nI 0) (pc' := 13) C dX0_init_12 rfl (by decide) ?_
  refine x_istore_n (pc' := 14) (L' := [some (.ref h), some (.int (nI 0))]) C dX0_init_13 rfl rfl (Nat.le_of_ble_eq_true rfl) rfl ?_
  refine x_iload_n (pc' := 15) C dX0_init_14 rfl rfl rfl ?_
  refine x_aload_n (pc' := 16) C dX0_init_15 rfl rfl rfl ?_
  refine x_get (pc' := 19) (v := .ref q0) C 0 0 inBX0 rfl rfl (by decide) fl_X0_11 rfl rfl dX0_init_16 rfl ?_
  refine x_alenQ (pc' := 20) (v := nI 4) C 1 rfl (by decide) dX0_init_19 rfl ?_
  refine x_icmpN_ge (tgt := 42) (pc' := 23) C 0 4 dX0_init_20 (by decide) rfl (by decide) (by decide) (fun c => absurd (by decide) c) (fun _ => ?_)
  refine x_aload_n (pc' := 24) C dX0_init_23 rfl rfl rfl ?_
  refine x_get (pc' := 27) (v := .ref q0) C 0 0 inBX0 rfl rfl (by decide) fl_X0_11 rfl rfl dX0_init_24 rfl ?_
  refine x_iload_n (pc' := 28) C dX0_init_27 rfl rfl rfl ?_
  refine x_catnew (pc' := 31) C B 3 [.int 0, .int 0, .int 0, .null, .null, .null, .null, .int 0, .int 0, .int 0, .int 0, .int 0, .int 0] inBX5 tyX5 tyX5_ok cl_X0_9 ia_X5 in_X5 rfl (fun j hj => by rcases (show j = 0 ∨ j = 1 ∨ j = 2 ∨ j = 3 ∨ j = 4 ∨ j = 5 ∨ j = 6 ∨ j = 7 ∨ j = 8 ∨ j = 9 ∨ j = 10 ∨ j = 11 ∨ j = 12 by omega) with rfl | rfl | rfl | rfl | rfl | rfl | rfl | rfl | rfl | rfl | rfl | rfl | rfl <;> rfl) (by decide) (by decide) dX0_init_28 rfl (fun p0 => ?_)
  refine x_loc (w' := cat [[(h, .inr (0, [.ref q0, .int 0]))], [(q0, .inl (gQ (kg k), (4, .inr (.inr (.inr (.inr (fun _ => none)))))))], [(p0, .inr (3, [.int 0, .int 0, .int 0, .null, .null, .null, .null, .int 0, .int 0, .int 0, .int 0, .int 0, .int 0]))]]) rfl ?_
  refine x_dup (pc' := 32) C dX0_init_31 rfl rfl ?_
  refine x_catWI (st := [.ref p0, .int (nI 0), .ref q0]) (pc' := 35) (wcs := [[(p0, .inr (3, [.int 0, .int 0, .int 0, .null, .null, .null, .null, .int 0, .int 0, .int 0, .int 0, .int 0, .int 0]))]]) (wrs := [[(h, .inr (0, [.ref q0, .int 0]))], [(q0, .inl (gQ (kg k), (4, .inr (.inr (.inr (.inr (fun _ => none)))))))]]) C B (c_X5_init (kl k) (kg k) p0) (by simp only [cat, List.append_nil]) (gB co_X5_init) ml_X0_17 im_X5_init in_X5 rfl ok_X5_init (by decide) [0, 1, 2] rfl rfl rfl (Nat.le_of_ble_eq_true rfl) (by decide) (by decide) rfl dX0_init_32 rfl (fun v u hv => ?_)
  obtain ⟨rfl, ad0, rfl⟩ := hv
  refine x_aastN (st := []) (pc' := 36) (f := (fun _ => none)) (w' := cat [[(h, .inr (0, [.ref q0, .int 0]))], [(q0, .inl (gQ (kg k), (4, .inr (.inr (.inr (.inr (va_up (fun _ => none) 0 (some p0))))))))], (wSt (kg k) p0 ad0 initSt)]) C B 1 2 (w := cat [[(h, .inr (0, [.ref q0, .int 0]))], [(q0, .inl (gQ (kg k), (4, .inr (.inr (.inr (.inr (fun _ => none)))))))], (wSt (kg k) p0 ad0 initSt)]) rfl rfl (by decide) (by decide) dX0_init_35 rfl rfl ?_
  refine x_iinc (pc' := 39) (v := nI 1) (L' := [some (.ref h), some (.int (nI 1))]) C dX0_init_36 rfl rfl (by decide) (Nat.le_of_ble_eq_true rfl) rfl ?_
  refine x_goto (tgt := 14) C dX0_init_39 (by decide) ?_
  refine x_iload_n (pc' := 15) C dX0_init_14 rfl rfl rfl ?_
  refine x_aload_n (pc' := 16) C dX0_init_15 rfl rfl rfl ?_
  refine x_get (pc' := 19) (v := .ref q0) C 0 0 inBX0 rfl rfl (by decide) fl_X0_11 rfl rfl dX0_init_16 rfl ?_
  refine x_alenQ (pc' := 20) (v := nI 4) C 1 rfl (by decide) dX0_init_19 rfl ?_
  refine x_icmpN_ge (tgt := 42) (pc' := 23) C 1 4 dX0_init_20 (by decide) rfl (by decide) (by decide) (fun c => absurd (by decide) c) (fun _ => ?_)
  refine x_aload_n (pc' := 24) C dX0_init_23 rfl rfl rfl ?_
  refine x_get (pc' := 27) (v := .ref q0) C 0 0 inBX0 rfl rfl (by decide) fl_X0_11 rfl rfl dX0_init_24 rfl ?_
  refine x_iload_n (pc' := 28) C dX0_init_27 rfl rfl rfl ?_
  refine x_catnew (pc' := 31) C B 3 [.int 0, .int 0, .int 0, .null, .null, .null, .null, .int 0, .int 0, .int 0, .int 0, .int 0, .int 0] inBX5 tyX5 tyX5_ok cl_X0_9 ia_X5 in_X5 rfl (fun j hj => by rcases (show j = 0 ∨ j = 1 ∨ j = 2 ∨ j = 3 ∨ j = 4 ∨ j = 5 ∨ j = 6 ∨ j = 7 ∨ j = 8 ∨ j = 9 ∨ j = 10 ∨ j = 11 ∨ j = 12 by omega) with rfl | rfl | rfl | rfl | rfl | rfl | rfl | rfl | rfl | rfl | rfl | rfl | rfl <;> rfl) (by decide) (by decide) dX0_init_28 rfl (fun p1 => ?_)
  refine x_loc (w' := cat [[(h, .inr (0, [.ref q0, .int 0]))], [(q0, .inl (gQ (kg k), (4, .inr (.inr (.inr (.inr (va_up (fun _ => none) 0 (some p0))))))))], (wSt (kg k) p0 ad0 initSt), [(p1, .inr (3, [.int 0, .int 0, .int 0, .null, .null, .null, .null, .int 0, .int 0, .int 0, .int 0, .int 0, .int 0]))]]) rfl ?_
  refine x_dup (pc' := 32) C dX0_init_31 rfl rfl ?_
  refine x_catWI (st := [.ref p1, .int (nI 1), .ref q0]) (pc' := 35) (wcs := [[(p1, .inr (3, [.int 0, .int 0, .int 0, .null, .null, .null, .null, .int 0, .int 0, .int 0, .int 0, .int 0, .int 0]))]]) (wrs := [[(h, .inr (0, [.ref q0, .int 0]))], [(q0, .inl (gQ (kg k), (4, .inr (.inr (.inr (.inr (va_up (fun _ => none) 0 (some p0))))))))], (wSt (kg k) p0 ad0 initSt)]) C B (c_X5_init (kl k) (kg k) p1) (by simp only [cat, List.append_nil]) (gB co_X5_init) ml_X0_17 im_X5_init in_X5 rfl ok_X5_init (by decide) [0, 1, 2, 3] rfl rfl rfl (Nat.le_of_ble_eq_true rfl) (by decide) (by decide) rfl dX0_init_32 rfl (fun v u hv => ?_)
  obtain ⟨rfl, ad1, rfl⟩ := hv
  refine x_aastN (st := []) (pc' := 36) (f := (va_up (fun _ => none) 0 (some p0))) (w' := cat [[(h, .inr (0, [.ref q0, .int 0]))], [(q0, .inl (gQ (kg k), (4, .inr (.inr (.inr (.inr (va_up (va_up (fun _ => none) 0 (some p0)) 1 (some p1))))))))], (wSt (kg k) p0 ad0 initSt), (wSt (kg k) p1 ad1 initSt)]) C B 1 7 (w := cat [[(h, .inr (0, [.ref q0, .int 0]))], [(q0, .inl (gQ (kg k), (4, .inr (.inr (.inr (.inr (va_up (fun _ => none) 0 (some p0))))))))], (wSt (kg k) p0 ad0 initSt), (wSt (kg k) p1 ad1 initSt)]) rfl rfl (by decide) (by decide) dX0_init_35 rfl rfl ?_
  refine x_iinc (pc' := 39) (v := nI 2) (L' := [some (.ref h), some (.int (nI 2))]) C dX0_init_36 rfl rfl (by decide) (Nat.le_of_ble_eq_true rfl) rfl ?_
  refine x_goto (tgt := 14) C dX0_init_39 (by decide) ?_
  refine x_iload_n (pc' := 15) C dX0_init_14 rfl rfl rfl ?_
  refine x_aload_n (pc' := 16) C dX0_init_15 rfl rfl rfl ?_
  refine x_get (pc' := 19) (v := .ref q0) C 0 0 inBX0 rfl rfl (by decide) fl_X0_11 rfl rfl dX0_init_16 rfl ?_
  refine x_alenQ (pc' := 20) (v := nI 4) C 1 rfl (by decide) dX0_init_19 rfl ?_
  refine x_icmpN_ge (tgt := 42) (pc' := 23) C 2 4 dX0_init_20 (by decide) rfl (by decide) (by decide) (fun c => absurd (by decide) c) (fun _ => ?_)
  refine x_aload_n (pc' := 24) C dX0_init_23 rfl rfl rfl ?_
  refine x_get (pc' := 27) (v := .ref q0) C 0 0 inBX0 rfl rfl (by decide) fl_X0_11 rfl rfl dX0_init_24 rfl ?_
  refine x_iload_n (pc' := 28) C dX0_init_27 rfl rfl rfl ?_
  refine x_catnew (pc' := 31) C B 3 [.int 0, .int 0, .int 0, .null, .null, .null, .null, .int 0, .int 0, .int 0, .int 0, .int 0, .int 0] inBX5 tyX5 tyX5_ok cl_X0_9 ia_X5 in_X5 rfl (fun j hj => by rcases (show j = 0 ∨ j = 1 ∨ j = 2 ∨ j = 3 ∨ j = 4 ∨ j = 5 ∨ j = 6 ∨ j = 7 ∨ j = 8 ∨ j = 9 ∨ j = 10 ∨ j = 11 ∨ j = 12 by omega) with rfl | rfl | rfl | rfl | rfl | rfl | rfl | rfl | rfl | rfl | rfl | rfl | rfl <;> rfl) (by decide) (by decide) dX0_init_28 rfl (fun p2 => ?_)
  refine x_loc (w' := cat [[(h, .inr (0, [.ref q0, .int 0]))], [(q0, .inl (gQ (kg k), (4, .inr (.inr (.inr (.inr (va_up (va_up (fun _ => none) 0 (some p0)) 1 (some p1))))))))], (wSt (kg k) p0 ad0 initSt), (wSt (kg k) p1 ad1 initSt), [(p2, .inr (3, [.int 0, .int 0, .int 0, .null, .null, .null, .null, .int 0, .int 0, .int 0, .int 0, .int 0, .int 0]))]]) rfl ?_
  refine x_dup (pc' := 32) C dX0_init_31 rfl rfl ?_
  refine x_catWI (st := [.ref p2, .int (nI 2), .ref q0]) (pc' := 35) (wcs := [[(p2, .inr (3, [.int 0, .int 0, .int 0, .null, .null, .null, .null, .int 0, .int 0, .int 0, .int 0, .int 0, .int 0]))]]) (wrs := [[(h, .inr (0, [.ref q0, .int 0]))], [(q0, .inl (gQ (kg k), (4, .inr (.inr (.inr (.inr (va_up (va_up (fun _ => none) 0 (some p0)) 1 (some p1))))))))], (wSt (kg k) p0 ad0 initSt), (wSt (kg k) p1 ad1 initSt)]) C B (c_X5_init (kl k) (kg k) p2) (by simp only [cat, List.append_nil]) (gB co_X5_init) ml_X0_17 im_X5_init in_X5 rfl ok_X5_init (by decide) [0, 1, 2, 3, 4] rfl rfl rfl (Nat.le_of_ble_eq_true rfl) (by decide) (by decide) rfl dX0_init_32 rfl (fun v u hv => ?_)
  obtain ⟨rfl, ad2, rfl⟩ := hv
  refine x_aastN (st := []) (pc' := 36) (f := (va_up (va_up (fun _ => none) 0 (some p0)) 1 (some p1))) (w' := cat [[(h, .inr (0, [.ref q0, .int 0]))], [(q0, .inl (gQ (kg k), (4, .inr (.inr (.inr (.inr (va_up (va_up (va_up (fun _ => none) 0 (some p0)) 1 (some p1)) 2 (some p2))))))))], (wSt (kg k) p0 ad0 initSt), (wSt (kg k) p1 ad1 initSt), (wSt (kg k) p2 ad2 initSt)]) C B 1 12 (w := cat [[(h, .inr (0, [.ref q0, .int 0]))], [(q0, .inl (gQ (kg k), (4, .inr (.inr (.inr (.inr (va_up (va_up (fun _ => none) 0 (some p0)) 1 (some p1))))))))], (wSt (kg k) p0 ad0 initSt), (wSt (kg k) p1 ad1 initSt), (wSt (kg k) p2 ad2 initSt)]) rfl rfl (by decide) (by decide) dX0_init_35 rfl rfl ?_
  refine x_iinc (pc' := 39) (v := nI 3) (L' := [some (.ref h), some (.int (nI 3))]) C dX0_init_36 rfl rfl (by decide) (Nat.le_of_ble_eq_true rfl) rfl ?_
  refine x_goto (tgt := 14) C dX0_init_39 (by decide) ?_
  refine x_iload_n (pc' := 15) C dX0_init_14 rfl rfl rfl ?_
  refine x_aload_n (pc' := 16) C dX0_init_15 rfl rfl rfl ?_
  refine x_get (pc' := 19) (v := .ref q0) C 0 0 inBX0 rfl rfl (by decide) fl_X0_11 rfl rfl dX0_init_16 rfl ?_
  refine x_alenQ (pc' := 20) (v := nI 4) C 1 rfl (by decide) dX0_init_19 rfl ?_
  refine x_icmpN_ge (tgt := 42) (pc' := 23) C 3 4 dX0_init_20 (by decide) rfl (by decide) (by decide) (fun c => absurd (by decide) c) (fun _ => ?_)
  refine x_aload_n (pc' := 24) C dX0_init_23 rfl rfl rfl ?_
  refine x_get (pc' := 27) (v := .ref q0) C 0 0 inBX0 rfl rfl (by decide) fl_X0_11 rfl rfl dX0_init_24 rfl ?_
  refine x_iload_n (pc' := 28) C dX0_init_27 rfl rfl rfl ?_
  refine x_catnew (pc' := 31) C B 3 [.int 0, .int 0, .int 0, .null, .null, .null, .null, .int 0, .int 0, .int 0, .int 0, .int 0, .int 0] inBX5 tyX5 tyX5_ok cl_X0_9 ia_X5 in_X5 rfl (fun j hj => by rcases (show j = 0 ∨ j = 1 ∨ j = 2 ∨ j = 3 ∨ j = 4 ∨ j = 5 ∨ j = 6 ∨ j = 7 ∨ j = 8 ∨ j = 9 ∨ j = 10 ∨ j = 11 ∨ j = 12 by omega) with rfl | rfl | rfl | rfl | rfl | rfl | rfl | rfl | rfl | rfl | rfl | rfl | rfl <;> rfl) (by decide) (by decide) dX0_init_28 rfl (fun p3 => ?_)
  refine x_loc (w' := cat [[(h, .inr (0, [.ref q0, .int 0]))], [(q0, .inl (gQ (kg k), (4, .inr (.inr (.inr (.inr (va_up (va_up (va_up (fun _ => none) 0 (some p0)) 1 (some p1)) 2 (some p2))))))))], (wSt (kg k) p0 ad0 initSt), (wSt (kg k) p1 ad1 initSt), (wSt (kg k) p2 ad2 initSt), [(p3, .inr (3, [.int 0, .int 0, .int 0, .null, .null, .null, .null, .int 0, .int 0, .int 0, .int 0, .int 0, .int 0]))]]) rfl ?_
  refine x_dup (pc' := 32) C dX0_init_31 rfl rfl ?_
  refine x_catWI (st := [.ref p3, .int (nI 3), .ref q0]) (pc' := 35) (wcs := [[(p3, .inr (3, [.int 0, .int 0, .int 0, .null, .null, .null, .null, .int 0, .int 0, .int 0, .int 0, .int 0, .int 0]))]]) (wrs := [[(h, .inr (0, [.ref q0, .int 0]))], [(q0, .inl (gQ (kg k), (4, .inr (.inr (.inr (.inr (va_up (va_up (va_up (fun _ => none) 0 (some p0)) 1 (some p1)) 2 (some p2))))))))], (wSt (kg k) p0 ad0 initSt), (wSt (kg k) p1 ad1 initSt), (wSt (kg k) p2 ad2 initSt)]) C B (c_X5_init (kl k) (kg k) p3) (by simp only [cat, List.append_nil]) (gB co_X5_init) ml_X0_17 im_X5_init in_X5 rfl ok_X5_init (by decide) [0, 1, 2, 3, 4, 5] rfl rfl rfl (Nat.le_of_ble_eq_true rfl) (by decide) (by decide) rfl dX0_init_32 rfl (fun v u hv => ?_)
  obtain ⟨rfl, ad3, rfl⟩ := hv
  refine x_aastN (st := []) (pc' := 36) (f := (va_up (va_up (va_up (fun _ => none) 0 (some p0)) 1 (some p1)) 2 (some p2))) (w' := cat [[(h, .inr (0, [.ref q0, .int 0]))], [(q0, .inl (gQ (kg k), (4, .inr (.inr (.inr (.inr (va_up (va_up (va_up (va_up (fun _ => none) 0 (some p0)) 1 (some p1)) 2 (some p2)) 3 (some p3))))))))], (wSt (kg k) p0 ad0 initSt), (wSt (kg k) p1 ad1 initSt), (wSt (kg k) p2 ad2 initSt), (wSt (kg k) p3 ad3 initSt)]) C B 1 17 (w := cat [[(h, .inr (0, [.ref q0, .int 0]))], [(q0, .inl (gQ (kg k), (4, .inr (.inr (.inr (.inr (va_up (va_up (va_up (fun _ => none) 0 (some p0)) 1 (some p1)) 2 (some p2))))))))], (wSt (kg k) p0 ad0 initSt), (wSt (kg k) p1 ad1 initSt), (wSt (kg k) p2 ad2 initSt), (wSt (kg k) p3 ad3 initSt)]) rfl rfl (by decide) (by decide) dX0_init_35 rfl rfl ?_
  refine x_iinc (pc' := 39) (v := nI 4) (L' := [some (.ref h), some (.int (nI 4))]) C dX0_init_36 rfl rfl (by decide) (Nat.le_of_ble_eq_true rfl) rfl ?_
  refine x_goto (tgt := 14) C dX0_init_39 (by decide) ?_
  refine x_iload_n (pc' := 15) C dX0_init_14 rfl rfl rfl ?_
  refine x_aload_n (pc' := 16) C dX0_init_15 rfl rfl rfl ?_
  refine x_get (pc' := 19) (v := .ref q0) C 0 0 inBX0 rfl rfl (by decide) fl_X0_11 rfl rfl dX0_init_16 rfl ?_
  refine x_alenQ (pc' := 20) (v := nI 4) C 1 rfl (by decide) dX0_init_19 rfl ?_
  refine x_icmpN_ge (tgt := 42) (pc' := 23) C 4 4 dX0_init_20 (by decide) rfl (by decide) (by decide) (fun _ => ?_) (fun c => absurd c (by decide))
  have e : (va_up (va_up (va_up (va_up (fun _ => none) 0 (some p0)) 1 (some p1)) 2 (some p2)) 3 (some p3)) = rfH4 (fun x => if x = 0 then q0 else if x = 1 then p0 else if x = 2 then p1 else if x = 3 then p2 else if x = 4 then p3 else if x < 20 then ad0 (x - 10) else if x < 30 then ad1 (x - 20) else if x < 40 then ad2 (x - 30) else ad3 (x - 40)) := by
    funext i
    simp only [va_up, rfH4]
    repeat' split
    all_goals first | rfl | (subst_vars; rfl) | omega
  rw [e]
  exact x_vret C (by decide) (by decide) dX0_init_42 ⟨rfl, (fun x => if x = 0 then q0 else if x = 1 then p0 else if x = 2 then p1 else if x = 3 then p2 else if x = 4 then p3 else if x < 20 then ad0 (x - 10) else if x < 30 then ad1 (x - 20) else if x < 40 then ad2 (x - 30) else ad3 (x - 40)), rfl⟩

def wAll0 (g : GT) (h : Nat) (ad ad0 ad1 ad2 ad3 ad4 ad5 : Nat → Nat) : va_W := cat [wMa h ad initZ, wSt g (ad 0) ad0 initSt, wSt g (ad 1) ad1 initSt, wSt g (ad 2) ad2 initSt, wHi0 g (ad 4) ad3, wRe g (ad 5) ad4 initZ, wOr g (ad 6) ad5 initZ]
set_option maxRecDepth 100000 in
set_option maxHeartbeats 8000000 in
theorem c_X6_init (l : Launch) (g : GT) (h : Nat) : CWx l yX6_init (.code yX6_init cX6_init 1 none) 3 47 2173 g [.ref h] (cat [[(h, .inr (4, [.null, .null, .null, .int 0, .null, .null, .null, .int 0, .int 0, .int 0]))]]) (fun v u => v = none ∧ ∃ ad ad0 ad1 ad2 ad3 ad4 ad5 : Nat → Nat, u = wAll0 g h ad ad0 ad1 ad2 ad3 ad4 ad5) := by
  refine CWx.of (nL := 1) (ret := none) (own := RX6) (cc := cX6_init) rfl (by decide) rfl (List.forall_mem_cons.mpr ⟨rfl, (fun _ h => absurd h List.not_mem_nil)⟩) (Nat.le_of_ble_eq_true rfl) ?_
  intro k C B hin hkl hkg
  subst hkl; subst hkg
  have hini := hin rfl
  refine x_loc2 (L' := [some (.ref h)]) rfl ?_
  refine x_aload_n (pc' := 1) C dX6_init_0 rfl rfl rfl ?_
  refine x_objInit (pc' := 4) C ml_X6_1 im_obj co_obj (by decide) (Nat.le_of_ble_eq_true rfl) dX6_init_1 rfl ?_
  refine x_aload_n (pc' := 5) C dX6_init_4 rfl rfl rfl ?_
  refine x_catnew (pc' := 8) C B 3 [.int 0, .int 0, .int 0, .null, .null, .null, .null, .int 0, .int 0, .int 0, .int 0, .int 0, .int 0] inBX5 tyX5 tyX5_ok cl_X6_7 ia_X5 in_X5 rfl (fun j hj => by rcases (show j = 0 ∨ j = 1 ∨ j = 2 ∨ j = 3 ∨ j = 4 ∨ j = 5 ∨ j = 6 ∨ j = 7 ∨ j = 8 ∨ j = 9 ∨ j = 10 ∨ j = 11 ∨ j = 12 by omega) with rfl | rfl | rfl | rfl | rfl | rfl | rfl | rfl | rfl | rfl | rfl | rfl | rfl <;> rfl) (by decide) (by decide) dX6_init_5 rfl (fun p0 => ?_)
  refine x_loc (w' := cat [[(h, .inr (4, [.null, .null, .null, .int 0, .null, .null, .null, .int 0, .int 0, .int 0]))], [(p0, .inr (3, [.int 0, .int 0, .int 0, .null, .null, .null, .null, .int 0, .int 0, .int 0, .int 0, .int 0, .int 0]))]]) rfl ?_
  refine x_dup (pc' := 9) C dX6_init_8 rfl rfl ?_
  refine x_catWI (st := [.ref p0, .ref h]) (pc' := 12) (wcs := [[(p0, .inr (3, [.int 0, .int 0, .int 0, .null, .null, .null, .null, .int 0, .int 0, .int 0, .int 0, .int 0, .int 0]))]]) (wrs := [[(h, .inr (4, [.null, .null, .null, .int 0, .null, .null, .null, .int 0, .int 0, .int 0]))]]) C B (c_X5_init (kl k) (kg k) p0) (by simp only [cat, List.append_nil]) (gB co_X5_init) ml_X6_9 im_X5_init in_X5 rfl ok_X5_init (by decide) [0, 1] rfl rfl rfl (Nat.le_of_ble_eq_true rfl) (by decide) (by decide) rfl dX6_init_9 rfl (fun v u hv => ?_)
  obtain ⟨rfl, ad0, rfl⟩ := hv
  refine x_putF (st := []) (pc' := 15) (w := cat [[(h, .inr (4, [.null, .null, .null, .int 0, .null, .null, .null, .int 0, .int 0, .int 0]))], (wSt (kg k) p0 ad0 initSt)]) (w' := cat [[(h, .inr (4, [.ref p0, .null, .null, .int 0, .null, .null, .null, .int 0, .int 0, .int 0]))], (wSt (kg k) p0 ad0 initSt)]) (ty := (.object "RootedDeltas$State")) C B hini 0 0 inBX6 tyX6 tyX6_ok nmX6 rfl rfl (by decide) fl_X6_10 rfl rfl rfl rfl rfl rfl (Nat.le_of_ble_eq_true rfl) dX6_init_12 rfl rfl ?_
  refine x_aload_n (pc' := 16) C dX6_init_15 rfl rfl rfl ?_
  refine x_catnew (pc' := 19) C B 3 [.int 0, .int 0, .int 0, .null, .null, .null, .null, .int 0, .int 0, .int 0, .int 0, .int 0, .int 0] inBX5 tyX5 tyX5_ok cl_X6_7 ia_X5 in_X5 rfl (fun j hj => by rcases (show j = 0 ∨ j = 1 ∨ j = 2 ∨ j = 3 ∨ j = 4 ∨ j = 5 ∨ j = 6 ∨ j = 7 ∨ j = 8 ∨ j = 9 ∨ j = 10 ∨ j = 11 ∨ j = 12 by omega) with rfl | rfl | rfl | rfl | rfl | rfl | rfl | rfl | rfl | rfl | rfl | rfl | rfl <;> rfl) (by decide) (by decide) dX6_init_16 rfl (fun p1 => ?_)
  refine x_loc (w' := cat [[(h, .inr (4, [.ref p0, .null, .null, .int 0, .null, .null, .null, .int 0, .int 0, .int 0]))], (wSt (kg k) p0 ad0 initSt), [(p1, .inr (3, [.int 0, .int 0, .int 0, .null, .null, .null, .null, .int 0, .int 0, .int 0, .int 0, .int 0, .int 0]))]]) rfl ?_
  refine x_dup (pc' := 20) C dX6_init_19 rfl rfl ?_
  refine x_catWI (st := [.ref p1, .ref h]) (pc' := 23) (wcs := [[(p1, .inr (3, [.int 0, .int 0, .int 0, .null, .null, .null, .null, .int 0, .int 0, .int 0, .int 0, .int 0, .int 0]))]]) (wrs := [[(h, .inr (4, [.ref p0, .null, .null, .int 0, .null, .null, .null, .int 0, .int 0, .int 0]))], (wSt (kg k) p0 ad0 initSt)]) C B (c_X5_init (kl k) (kg k) p1) (by simp only [cat, List.append_nil]) (gB co_X5_init) ml_X6_9 im_X5_init in_X5 rfl ok_X5_init (by decide) [0, 1, 2] rfl rfl rfl (Nat.le_of_ble_eq_true rfl) (by decide) (by decide) rfl dX6_init_20 rfl (fun v u hv => ?_)
  obtain ⟨rfl, ad1, rfl⟩ := hv
  refine x_putF (st := []) (pc' := 26) (w := cat [[(h, .inr (4, [.ref p0, .null, .null, .int 0, .null, .null, .null, .int 0, .int 0, .int 0]))], (wSt (kg k) p0 ad0 initSt), (wSt (kg k) p1 ad1 initSt)]) (w' := cat [[(h, .inr (4, [.ref p0, .ref p1, .null, .int 0, .null, .null, .null, .int 0, .int 0, .int 0]))], (wSt (kg k) p0 ad0 initSt), (wSt (kg k) p1 ad1 initSt)]) (ty := (.object "RootedDeltas$State")) C B hini 0 1 inBX6 tyX6 tyX6_ok nmX6 rfl rfl (by decide) fl_X6_16 rfl rfl rfl rfl rfl rfl (Nat.le_of_ble_eq_true rfl) dX6_init_23 rfl rfl ?_
  refine x_aload_n (pc' := 27) C dX6_init_26 rfl rfl rfl ?_
  refine x_catnew (pc' := 30) C B 3 [.int 0, .int 0, .int 0, .null, .null, .null, .null, .int 0, .int 0, .int 0, .int 0, .int 0, .int 0] inBX5 tyX5 tyX5_ok cl_X6_7 ia_X5 in_X5 rfl (fun j hj => by rcases (show j = 0 ∨ j = 1 ∨ j = 2 ∨ j = 3 ∨ j = 4 ∨ j = 5 ∨ j = 6 ∨ j = 7 ∨ j = 8 ∨ j = 9 ∨ j = 10 ∨ j = 11 ∨ j = 12 by omega) with rfl | rfl | rfl | rfl | rfl | rfl | rfl | rfl | rfl | rfl | rfl | rfl | rfl <;> rfl) (by decide) (by decide) dX6_init_27 rfl (fun p2 => ?_)
  refine x_loc (w' := cat [[(h, .inr (4, [.ref p0, .ref p1, .null, .int 0, .null, .null, .null, .int 0, .int 0, .int 0]))], (wSt (kg k) p0 ad0 initSt), (wSt (kg k) p1 ad1 initSt), [(p2, .inr (3, [.int 0, .int 0, .int 0, .null, .null, .null, .null, .int 0, .int 0, .int 0, .int 0, .int 0, .int 0]))]]) rfl ?_
  refine x_dup (pc' := 31) C dX6_init_30 rfl rfl ?_
  refine x_catWI (st := [.ref p2, .ref h]) (pc' := 34) (wcs := [[(p2, .inr (3, [.int 0, .int 0, .int 0, .null, .null, .null, .null, .int 0, .int 0, .int 0, .int 0, .int 0, .int 0]))]]) (wrs := [[(h, .inr (4, [.ref p0, .ref p1, .null, .int 0, .null, .null, .null, .int 0, .int 0, .int 0]))], (wSt (kg k) p0 ad0 initSt), (wSt (kg k) p1 ad1 initSt)]) C B (c_X5_init (kl k) (kg k) p2) (by simp only [cat, List.append_nil]) (gB co_X5_init) ml_X6_9 im_X5_init in_X5 rfl ok_X5_init (by decide) [0, 1, 2, 3] rfl rfl rfl (Nat.le_of_ble_eq_true rfl) (by decide) (by decide) rfl dX6_init_31 rfl (fun v u hv => ?_)
  obtain ⟨rfl, ad2, rfl⟩ := hv
  refine x_putF (st := []) (pc' := 37) (w := cat [[(h, .inr (4, [.ref p0, .ref p1, .null, .int 0, .null, .null, .null, .int 0, .int 0, .int 0]))], (wSt (kg k) p0 ad0 initSt), (wSt (kg k) p1 ad1 initSt), (wSt (kg k) p2 ad2 initSt)]) (w' := cat [[(h, .inr (4, [.ref p0, .ref p1, .ref p2, .int 0, .null, .null, .null, .int 0, .int 0, .int 0]))], (wSt (kg k) p0 ad0 initSt), (wSt (kg k) p1 ad1 initSt), (wSt (kg k) p2 ad2 initSt)]) (ty := (.object "RootedDeltas$State")) C B hini 0 2 inBX6 tyX6 tyX6_ok nmX6 rfl rfl (by decide) fl_X6_19 rfl rfl rfl rfl rfl rfl (Nat.le_of_ble_eq_true rfl) dX6_init_34 rfl rfl ?_
  refine x_aload_n (pc' := 38) C dX6_init_37 rfl rfl rfl ?_
  refine x_catnew (pc' := 41) C B 0 [.null, .int 0] inBX0 tyX0 tyX0_ok cl_X6_22 ia_X0 in_X0 rfl (fun j hj => by rcases (show j = 0 ∨ j = 1 by omega) with rfl | rfl <;> rfl) (by decide) (by decide) dX6_init_38 rfl (fun p3 => ?_)
  refine x_loc (w' := cat [[(h, .inr (4, [.ref p0, .ref p1, .ref p2, .int 0, .null, .null, .null, .int 0, .int 0, .int 0]))], (wSt (kg k) p0 ad0 initSt), (wSt (kg k) p1 ad1 initSt), (wSt (kg k) p2 ad2 initSt), [(p3, .inr (0, [.null, .int 0]))]]) rfl ?_
  refine x_dup (pc' := 42) C dX6_init_41 rfl rfl ?_
  refine x_catWI (st := [.ref p3, .ref h]) (pc' := 45) (wcs := [[(p3, .inr (0, [.null, .int 0]))]]) (wrs := [[(h, .inr (4, [.ref p0, .ref p1, .ref p2, .int 0, .null, .null, .null, .int 0, .int 0, .int 0]))], (wSt (kg k) p0 ad0 initSt), (wSt (kg k) p1 ad1 initSt), (wSt (kg k) p2 ad2 initSt)]) C B (c_X0_init (kl k) (kg k) p3) rfl (gB co_X0_init) ml_X6_24 im_X0_init in_X0 rfl ok_X0_init (by decide) [0, 1, 2, 3, 4] rfl rfl rfl (Nat.le_of_ble_eq_true rfl) (by decide) (by decide) rfl dX6_init_42 rfl (fun v u hv => ?_)
  obtain ⟨rfl, ad3, rfl⟩ := hv
  refine x_putF (st := []) (pc' := 48) (w := cat [[(h, .inr (4, [.ref p0, .ref p1, .ref p2, .int 0, .null, .null, .null, .int 0, .int 0, .int 0]))], (wSt (kg k) p0 ad0 initSt), (wSt (kg k) p1 ad1 initSt), (wSt (kg k) p2 ad2 initSt), (wHi0 (kg k) p3 ad3)]) (w' := cat [[(h, .inr (4, [.ref p0, .ref p1, .ref p2, .int 0, .ref p3, .null, .null, .int 0, .int 0, .int 0]))], (wSt (kg k) p0 ad0 initSt), (wSt (kg k) p1 ad1 initSt), (wSt (kg k) p2 ad2 initSt), (wHi0 (kg k) p3 ad3)]) (ty := (.object "RootedDeltas$History")) C B hini 0 4 inBX6 tyX6 tyX6_ok nmX6 rfl rfl (by decide) fl_X6_25 rfl rfl rfl rfl rfl rfl (Nat.le_of_ble_eq_true rfl) dX6_init_45 rfl rfl ?_
  refine x_aload_n (pc' := 49) C dX6_init_48 rfl rfl rfl ?_
  refine x_catnew (pc' := 52) C B 2 [.int 0, .null, .null, .null] inBX2 tyX2 tyX2_ok cl_X6_29 ia_X2 in_X2 rfl (fun j hj => by rcases (show j = 0 ∨ j = 1 ∨ j = 2 ∨ j = 3 by omega) with rfl | rfl | rfl | rfl <;> rfl) (by decide) (by decide) dX6_init_49 rfl (fun p4 => ?_)
  refine x_loc (w' := cat [[(h, .inr (4, [.ref p0, .ref p1, .ref p2, .int 0, .ref p3, .null, .null, .int 0, .int 0, .int 0]))], (wSt (kg k) p0 ad0 initSt), (wSt (kg k) p1 ad1 initSt), (wSt (kg k) p2 ad2 initSt), (wHi0 (kg k) p3 ad3), [(p4, .inr (2, [.int 0, .null, .null, .null]))]]) rfl ?_
  refine x_dup (pc' := 53) C dX6_init_52 rfl rfl ?_
  refine x_catWI (st := [.ref p4, .ref h]) (pc' := 56) (wcs := [[(p4, .inr (2, [.int 0, .null, .null, .null]))]]) (wrs := [[(h, .inr (4, [.ref p0, .ref p1, .ref p2, .int 0, .ref p3, .null, .null, .int 0, .int 0, .int 0]))], (wSt (kg k) p0 ad0 initSt), (wSt (kg k) p1 ad1 initSt), (wSt (kg k) p2 ad2 initSt), (wHi0 (kg k) p3 ad3)]) C B (c_X2_init (kl k) (kg k) p4) (by simp only [cat, List.append_nil]) (gB co_X2_init) ml_X6_31 im_X2_init in_X2 rfl ok_X2_init (by decide) [0, 1, 2, 3, 4, 5] rfl rfl rfl (Nat.le_of_ble_eq_true rfl) (by decide) (by decide) rfl dX6_init_53 rfl (fun v u hv => ?_)
  obtain ⟨rfl, ad4, rfl⟩ := hv
  refine x_putF (st := []) (pc' := 59) (w := cat [[(h, .inr (4, [.ref p0, .ref p1, .ref p2, .int 0, .ref p3, .null, .null, .int 0, .int 0, .int 0]))], (wSt (kg k) p0 ad0 initSt), (wSt (kg k) p1 ad1 initSt), (wSt (kg k) p2 ad2 initSt), (wHi0 (kg k) p3 ad3), (wRe (kg k) p4 ad4 initZ)]) (w' := cat [[(h, .inr (4, [.ref p0, .ref p1, .ref p2, .int 0, .ref p3, .ref p4, .null, .int 0, .int 0, .int 0]))], (wSt (kg k) p0 ad0 initSt), (wSt (kg k) p1 ad1 initSt), (wSt (kg k) p2 ad2 initSt), (wHi0 (kg k) p3 ad3), (wRe (kg k) p4 ad4 initZ)]) (ty := (.object "RootedDeltas$Reach")) C B hini 0 5 inBX6 tyX6 tyX6_ok nmX6 rfl rfl (by decide) fl_X6_32 rfl rfl rfl rfl rfl rfl (Nat.le_of_ble_eq_true rfl) dX6_init_56 rfl rfl ?_
  refine x_aload_n (pc' := 60) C dX6_init_59 rfl rfl rfl ?_
  refine x_catnew (pc' := 63) C B 1 [.null, .int 0, .int 0, .int 0, .null, .null, .null, .null] inBX1 tyX1 tyX1_ok cl_X6_36 ia_X1 in_X1 rfl (fun j hj => by rcases (show j = 0 ∨ j = 1 ∨ j = 2 ∨ j = 3 ∨ j = 4 ∨ j = 5 ∨ j = 6 ∨ j = 7 by omega) with rfl | rfl | rfl | rfl | rfl | rfl | rfl | rfl <;> rfl) (by decide) (by decide) dX6_init_60 rfl (fun p5 => ?_)
  refine x_loc (w' := cat [[(h, .inr (4, [.ref p0, .ref p1, .ref p2, .int 0, .ref p3, .ref p4, .null, .int 0, .int 0, .int 0]))], (wSt (kg k) p0 ad0 initSt), (wSt (kg k) p1 ad1 initSt), (wSt (kg k) p2 ad2 initSt), (wHi0 (kg k) p3 ad3), (wRe (kg k) p4 ad4 initZ), [(p5, .inr (1, [.null, .int 0, .int 0, .int 0, .null, .null, .null, .null]))]]) rfl ?_
  refine x_dup (pc' := 64) C dX6_init_63 rfl rfl ?_
  refine x_catWI (st := [.ref p5, .ref h]) (pc' := 67) (wcs := [[(p5, .inr (1, [.null, .int 0, .int 0, .int 0, .null, .null, .null, .null]))]]) (wrs := [[(h, .inr (4, [.ref p0, .ref p1, .ref p2, .int 0, .ref p3, .ref p4, .null, .int 0, .int 0, .int 0]))], (wSt (kg k) p0 ad0 initSt), (wSt (kg k) p1 ad1 initSt), (wSt (kg k) p2 ad2 initSt), (wHi0 (kg k) p3 ad3), (wRe (kg k) p4 ad4 initZ)]) C B (c_X1_init (kl k) (kg k) p5) (by simp only [cat, List.append_nil]) (gB co_X1_init) ml_X6_38 im_X1_init in_X1 rfl ok_X1_init (by decide) [0, 1, 2, 3, 4, 5, 6] rfl rfl rfl (Nat.le_of_ble_eq_true rfl) (by decide) (by decide) rfl dX6_init_64 rfl (fun v u hv => ?_)
  obtain ⟨rfl, ad5, rfl⟩ := hv
  refine x_putF (st := []) (pc' := 70) (w := cat [[(h, .inr (4, [.ref p0, .ref p1, .ref p2, .int 0, .ref p3, .ref p4, .null, .int 0, .int 0, .int 0]))], (wSt (kg k) p0 ad0 initSt), (wSt (kg k) p1 ad1 initSt), (wSt (kg k) p2 ad2 initSt), (wHi0 (kg k) p3 ad3), (wRe (kg k) p4 ad4 initZ), (wOr (kg k) p5 ad5 initZ)]) (w' := cat [[(h, .inr (4, [.ref p0, .ref p1, .ref p2, .int 0, .ref p3, .ref p4, .ref p5, .int 0, .int 0, .int 0]))], (wSt (kg k) p0 ad0 initSt), (wSt (kg k) p1 ad1 initSt), (wSt (kg k) p2 ad2 initSt), (wHi0 (kg k) p3 ad3), (wRe (kg k) p4 ad4 initZ), (wOr (kg k) p5 ad5 initZ)]) (ty := (.object "RootedDeltas$Orders")) C B hini 0 6 inBX6 tyX6 tyX6_ok nmX6 rfl rfl (by decide) fl_X6_39 rfl rfl rfl rfl rfl rfl (Nat.le_of_ble_eq_true rfl) dX6_init_67 rfl rfl ?_
  exact x_vret C (by decide) (by decide) dX6_init_70 ⟨rfl, (fun x => if x = 0 then p0 else if x = 1 then p1 else if x = 2 then p2 else if x = 4 then p3 else if x = 5 then p4 else p5), ad0, ad1, ad2, ad3, ad4, ad5, rfl⟩
