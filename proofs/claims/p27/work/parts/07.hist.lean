set_option maxRecDepth 100000 in
set_option maxHeartbeats 8000000 in
theorem c_X0_stateAt (l : Launch) (g : GT) (h : Nat) (ad : Nat → Nat) (sz : Int32) (f : Nat → Option Nat) (T : Nat → CS) (a1 : Int32) : CR l yX0_stateAt (.code yX0_stateAt cX0_stateAt 2 (some (.object "RootedDeltas$State"))) 0 g [.ref h, .int a1] (wHf g h ad sz f T) (some (va_rf (atH f a1))) := by
  refine CRx.of (nL := 2) (ret := (some (.object "RootedDeltas$State"))) (own := RX0) (cc := cX0_stateAt) rfl (by decide) rfl (List.forall_mem_cons.mpr ⟨rfl, (List.forall_mem_cons.mpr ⟨rfl, (fun _ h => absurd h List.not_mem_nil)⟩)⟩) (Nat.le_of_ble_eq_true rfl) ?_
  intro k C hkl hkg
  subst hkl; subst hkg
  refine x_loc2 (L' := [some (.ref h), some (.int a1)]) rfl ?_
  refine x_iload_n (pc' := 1) C dX0_stateAt_0 rfl rfl rfl ?_
  refine x_if_lt (tgt := 22) (pc' := 4) C dX0_stateAt_1 (by decide) rfl (fun c1 => ?_) (fun c1 => ?_)
  · refine x_null (pc' := 23) C dX0_stateAt_22 rfl ?_
    exact x_aret (r := none) C rfl (Nat.zero_le _) (Nat.zero_le _) dX0_stateAt_23 (by rw [atH, if_pos c1])
  · refine x_iload_n (pc' := 5) C dX0_stateAt_4 rfl rfl rfl ?_
    refine x_aload_n (pc' := 6) C dX0_stateAt_5 rfl rfl rfl ?_
    refine x_get (pc' := 9) (v := .ref (ad 0)) C 0 0 inBX0 rfl rfl (by decide) fl_X0_11 rfl rfl dX0_stateAt_6 rfl ?_
    refine x_alenQ (pc' := 10) (v := 4) C 1 rfl (by decide) dX0_stateAt_9 rfl ?_
    refine x_icmp_ge (tgt := 22) (pc' := 13) C dX0_stateAt_10 (by decide) rfl (fun c2 => ?_) (fun c2 => ?_)
    · refine x_null (pc' := 23) C dX0_stateAt_22 rfl ?_
      exact x_aret (r := none) C rfl (Nat.zero_le _) (Nat.zero_le _) dX0_stateAt_23 (by rw [atH, if_neg c1, if_neg c2])
    · refine x_aload_n (pc' := 14) C dX0_stateAt_13 rfl rfl rfl ?_
      refine x_get (pc' := 17) (v := .ref (ad 0)) C 0 0 inBX0 rfl rfl (by decide) fl_X0_11 rfl rfl dX0_stateAt_14 rfl ?_
      refine x_iload_n (pc' := 18) C dX0_stateAt_17 rfl rfl rfl ?_
      refine x_aald (pc' := 19) C 1 rfl (in_of c1 c2 (by decide)) rfl dX0_stateAt_18 rfl ?_
      refine x_goto (tgt := 23) C dX0_stateAt_19 (by decide) ?_
      exact x_aret C rfl (Nat.zero_le _) (Nat.zero_le _) dX0_stateAt_23 (by rw [atH, if_neg c1, if_pos c2])
set_option maxRecDepth 100000 in
set_option maxHeartbeats 8000000 in
theorem c_X0_dropOldest (l : Launch) (g : GT) (h : Nat) (ad : Nat → Nat) (sz : Int32) (p : Nat → Nat) (T : Nat → CS) (hp : ∀ i, i < 4 → p i < 4) : CW l yX0_dropOldest (.code yX0_dropOldest cX0_dropOldest 3 none) 1 g [.ref h] (wHf g h ad sz (rfH ad p) T) none (wHf g h ad 3 (rfH ad (dropP p)) T) := by
  refine CWx.of (nL := 3) (ret := none) (own := RX0) (cc := cX0_dropOldest) rfl (by decide) rfl (List.forall_mem_cons.mpr ⟨rfl, (fun _ h => absurd h List.not_mem_nil)⟩) (Nat.le_of_ble_eq_true rfl) ?_
  intro k C B hin hkl hkg
  subst hkl; subst hkg
  refine x_loc2 (L' := [some (.ref h), none, none]) rfl ?_
  refine x_aload_n (pc' := 1) C dX0_dropOldest_0 rfl rfl rfl ?_
  refine x_iconst (v := 0) (pc' := 2) C dX0_dropOldest_1 rfl (by decide) ?_
  refine x_RV (st := []) (st2 := [.ref (ad (1 + p 0))]) (pc' := 5) C (c_X0_stateAt (kl k) (kg k) h ad sz (rfH ad p) T 0) cw_X0_25 ok_X0_stateAt rfl (by decide) 0 rfl rfl [0, 1, 2, 3, 4, 5, 6, 7, 8, 9, 10, 11, 12, 13, 14, 15, 16, 17, 18, 19, 20, 21] rfl rfl rfl (Nat.le_of_ble_eq_true rfl) (Nat.zero_le _) (Nat.zero_le _) rfl dX0_dropOldest_2 rfl (by rw [show atH (rfH ad p) 0 = some (ad (1 + p 0)) from by rw [atH, if_neg (by decide), if_pos (by decide)]; rfl]; rfl) ?_
  refine x_astore_n (pc' := 6) (L' := [some (.ref h), some (.ref (ad (1 + p 0))), none]) C dX0_dropOldest_5 rfl rfl (Nat.le_of_ble_eq_true rfl) rfl ?_
  refine x_iconst (v := nI 1) (pc' := 7) C dX0_dropOldest_6 rfl (by decide) ?_
  refine x_istore_n (pc' := 8) (L' := [some (.ref h), some (.ref (ad (1 + p 0))), some (.int (nI 1))]) C dX0_dropOldest_7 rfl rfl (Nat.le_of_ble_eq_true rfl) rfl ?_
  refine x_iload_n (pc' := 9) C dX0_dropOldest_8 rfl rfl rfl ?_
  refine x_aload_n (pc' := 10) C dX0_dropOldest_9 rfl rfl rfl ?_
  refine x_get (pc' := 13) (v := .ref (ad 0)) C 0 0 inBX0 rfl rfl (by decide) fl_X0_11 rfl rfl dX0_dropOldest_10 rfl ?_
  refine x_alenQ (pc' := 14) (v := nI 4) C 1 rfl (by decide) dX0_dropOldest_13 rfl ?_
  refine x_icmpN_ge (tgt := 37) (pc' := 17) C 1 4 dX0_dropOldest_14 (by decide) rfl (by decide) (by decide) (fun c => absurd (by decide) c) (fun _ => ?_)
  refine x_aload_n (pc' := 18) C dX0_dropOldest_17 rfl rfl rfl ?_
  refine x_get (pc' := 21) (v := .ref (ad 0)) C 0 0 inBX0 rfl rfl (by decide) fl_X0_11 rfl rfl dX0_dropOldest_18 rfl ?_
  refine x_iload_n (pc' := 22) C dX0_dropOldest_21 rfl rfl rfl ?_
  refine x_iconst (v := 1) (pc' := 23) C dX0_dropOldest_22 rfl (by decide) ?_
  refine x_isub (pc' := 24) (v := nI 0) C dX0_dropOldest_23 rfl (by decide) ?_
  refine x_aload_n (pc' := 25) C dX0_dropOldest_24 rfl rfl rfl ?_
  refine x_get (pc' := 28) (v := .ref (ad 0)) C 0 0 inBX0 rfl rfl (by decide) fl_X0_11 rfl rfl dX0_dropOldest_25 rfl ?_
  refine x_iload_n (pc' := 29) C dX0_dropOldest_28 rfl rfl rfl ?_
  refine x_aaldN (pc' := 30) (v := .ref (ad (1 + p 1))) (f := (rfH ad p)) C 1 rfl (by decide) (by decide) rfl dX0_dropOldest_29 rfl ?_
  obtain ⟨qk, vs, hqk⟩ := stPl (kg k) h ad sz (rfH ad p) T (p 1) (hp 1 (by decide))
  refine x_aastN (pc' := 31) (f := (rfH ad p)) (w' := wHf (kg k) h ad sz (va_up (rfH ad p) 0 (some (ad (1 + p 1)))) T) C B 1 qk rfl hqk (by decide) (by decide) dX0_dropOldest_30 rfl rfl ?_
  clear hqk
  refine x_iinc (pc' := 34) (v := nI 2) (L' := [some (.ref h), some (.ref (ad (1 + p 0))), some (.int (nI 2))]) C dX0_dropOldest_31 rfl rfl (by decide) (Nat.le_of_ble_eq_true rfl) rfl ?_
  refine x_goto (tgt := 8) C dX0_dropOldest_34 (by decide) ?_
  refine x_iload_n (pc' := 9) C dX0_dropOldest_8 rfl rfl rfl ?_
  refine x_aload_n (pc' := 10) C dX0_dropOldest_9 rfl rfl rfl ?_
  refine x_get (pc' := 13) (v := .ref (ad 0)) C 0 0 inBX0 rfl rfl (by decide) fl_X0_11 rfl rfl dX0_dropOldest_10 rfl ?_
  refine x_alenQ (pc' := 14) (v := nI 4) C 1 rfl (by decide) dX0_dropOldest_13 rfl ?_
  refine x_icmpN_ge (tgt := 37) (pc' := 17) C 2 4 dX0_dropOldest_14 (by decide) rfl (by decide) (by decide) (fun c => absurd (by decide) c) (fun _ => ?_)
  refine x_aload_n (pc' := 18) C dX0_dropOldest_17 rfl rfl rfl ?_
  refine x_get (pc' := 21) (v := .ref (ad 0)) C 0 0 inBX0 rfl rfl (by decide) fl_X0_11 rfl rfl dX0_dropOldest_18 rfl ?_
  refine x_iload_n (pc' := 22) C dX0_dropOldest_21 rfl rfl rfl ?_
  refine x_iconst (v := 1) (pc' := 23) C dX0_dropOldest_22 rfl (by decide) ?_
  refine x_isub (pc' := 24) (v := nI 1) C dX0_dropOldest_23 rfl (by decide) ?_
  refine x_aload_n (pc' := 25) C dX0_dropOldest_24 rfl rfl rfl ?_
  refine x_get (pc' := 28) (v := .ref (ad 0)) C 0 0 inBX0 rfl rfl (by decide) fl_X0_11 rfl rfl dX0_dropOldest_25 rfl ?_
  refine x_iload_n (pc' := 29) C dX0_dropOldest_28 rfl rfl rfl ?_
  refine x_aaldN (pc' := 30) (v := .ref (ad (1 + p 2))) (f := (va_up (rfH ad p) 0 (some (ad (1 + p 1))))) C 1 rfl (by decide) (by decide) rfl dX0_dropOldest_29 rfl ?_
  obtain ⟨qk, vs, hqk⟩ := stPl (kg k) h ad sz (va_up (rfH ad p) 0 (some (ad (1 + p 1)))) T (p 2) (hp 2 (by decide))
  refine x_aastN (pc' := 31) (f := (va_up (rfH ad p) 0 (some (ad (1 + p 1))))) (w' := wHf (kg k) h ad sz (va_up (va_up (rfH ad p) 0 (some (ad (1 + p 1)))) 1 (some (ad (1 + p 2)))) T) C B 1 qk rfl hqk (by decide) (by decide) dX0_dropOldest_30 rfl rfl ?_
  clear hqk
  refine x_iinc (pc' := 34) (v := nI 3) (L' := [some (.ref h), some (.ref (ad (1 + p 0))), some (.int (nI 3))]) C dX0_dropOldest_31 rfl rfl (by decide) (Nat.le_of_ble_eq_true rfl) rfl ?_
  refine x_goto (tgt := 8) C dX0_dropOldest_34 (by decide) ?_
  refine x_iload_n (pc' := 9) C dX0_dropOldest_8 rfl rfl rfl ?_
  refine x_aload_n (pc' := 10) C dX0_dropOldest_9 rfl rfl rfl ?_
  refine x_get (pc' := 13) (v := .ref (ad 0)) C 0 0 inBX0 rfl rfl (by decide) fl_X0_11 rfl rfl dX0_dropOldest_10 rfl ?_
  refine x_alenQ (pc' := 14) (v := nI 4) C 1 rfl (by decide) dX0_dropOldest_13 rfl ?_
  refine x_icmpN_ge (tgt := 37) (pc' := 17) C 3 4 dX0_dropOldest_14 (by decide) rfl (by decide) (by decide) (fun c => absurd (by decide) c) (fun _ => ?_)
  refine x_aload_n (pc' := 18) C dX0_dropOldest_17 rfl rfl rfl ?_
  refine x_get (pc' := 21) (v := .ref (ad 0)) C 0 0 inBX0 rfl rfl (by decide) fl_X0_11 rfl rfl dX0_dropOldest_18 rfl ?_
  refine x_iload_n (pc' := 22) C dX0_dropOldest_21 rfl rfl rfl ?_
  refine x_iconst (v := 1) (pc' := 23) C dX0_dropOldest_22 rfl (by decide) ?_
  refine x_isub (pc' := 24) (v := nI 2) C dX0_dropOldest_23 rfl (by decide) ?_
  refine x_aload_n (pc' := 25) C dX0_dropOldest_24 rfl rfl rfl ?_
  refine x_get (pc' := 28) (v := .ref (ad 0)) C 0 0 inBX0 rfl rfl (by decide) fl_X0_11 rfl rfl dX0_dropOldest_25 rfl ?_
  refine x_iload_n (pc' := 29) C dX0_dropOldest_28 rfl rfl rfl ?_
  refine x_aaldN (pc' := 30) (v := .ref (ad (1 + p 3))) (f := (va_up (va_up (rfH ad p) 0 (some (ad (1 + p 1)))) 1 (some (ad (1 + p 2))))) C 1 rfl (by decide) (by decide) rfl dX0_dropOldest_29 rfl ?_
  obtain ⟨qk, vs, hqk⟩ := stPl (kg k) h ad sz (va_up (va_up (rfH ad p) 0 (some (ad (1 + p 1)))) 1 (some (ad (1 + p 2)))) T (p 3) (hp 3 (by decide))
  refine x_aastN (pc' := 31) (f := (va_up (va_up (rfH ad p) 0 (some (ad (1 + p 1)))) 1 (some (ad (1 + p 2))))) (w' := wHf (kg k) h ad sz (va_up (va_up (va_up (rfH ad p) 0 (some (ad (1 + p 1)))) 1 (some (ad (1 + p 2)))) 2 (some (ad (1 + p 3)))) T) C B 1 qk rfl hqk (by decide) (by decide) dX0_dropOldest_30 rfl rfl ?_
  clear hqk
  refine x_iinc (pc' := 34) (v := nI 4) (L' := [some (.ref h), some (.ref (ad (1 + p 0))), some (.int (nI 4))]) C dX0_dropOldest_31 rfl rfl (by decide) (Nat.le_of_ble_eq_true rfl) rfl ?_
  refine x_goto (tgt := 8) C dX0_dropOldest_34 (by decide) ?_
  refine x_iload_n (pc' := 9) C dX0_dropOldest_8 rfl rfl rfl ?_
  refine x_aload_n (pc' := 10) C dX0_dropOldest_9 rfl rfl rfl ?_
  refine x_get (pc' := 13) (v := .ref (ad 0)) C 0 0 inBX0 rfl rfl (by decide) fl_X0_11 rfl rfl dX0_dropOldest_10 rfl ?_
  refine x_alenQ (pc' := 14) (v := nI 4) C 1 rfl (by decide) dX0_dropOldest_13 rfl ?_
  refine x_icmpN_ge (tgt := 37) (pc' := 17) C 4 4 dX0_dropOldest_14 (by decide) rfl (by decide) (by decide) (fun _ => ?_) (fun c => absurd c (by decide))
  refine x_aload_n (pc' := 38) C dX0_dropOldest_37 rfl rfl rfl ?_
  refine x_get (pc' := 41) (v := .ref (ad 0)) C 0 0 inBX0 rfl rfl (by decide) fl_X0_11 rfl rfl dX0_dropOldest_38 rfl ?_
  refine x_alenQ (pc' := 42) (v := nI 4) C 1 rfl (by decide) dX0_dropOldest_41 rfl ?_
  refine x_ifN_le (tgt := 69) (pc' := 45) C 4 dX0_dropOldest_42 (by decide) rfl (by decide) (fun c => absurd (by decide) c) (fun _ => ?_)
  refine x_aload_n (pc' := 46) C dX0_dropOldest_45 rfl rfl rfl ?_
  refine x_get (pc' := 49) (v := .ref (ad 0)) C 0 0 inBX0 rfl rfl (by decide) fl_X0_11 rfl rfl dX0_dropOldest_46 rfl ?_
  refine x_aload_n (pc' := 50) C dX0_dropOldest_49 rfl rfl rfl ?_
  refine x_get (pc' := 53) (v := .ref (ad 0)) C 0 0 inBX0 rfl rfl (by decide) fl_X0_11 rfl rfl dX0_dropOldest_50 rfl ?_
  refine x_alenQ (pc' := 54) (v := 4) C 1 rfl (by decide) dX0_dropOldest_53 rfl ?_
  refine x_iconst (v := 1) (pc' := 55) C dX0_dropOldest_54 rfl (by decide) ?_
  refine x_isub (pc' := 56) (v := nI 3) C dX0_dropOldest_55 rfl (by decide) ?_
  refine x_aload_n (pc' := 57) C dX0_dropOldest_56 rfl rfl rfl ?_
  obtain ⟨qk, vs, hqk⟩ := stPl (kg k) h ad sz (va_up (va_up (va_up (rfH ad p) 0 (some (ad (1 + p 1)))) 1 (some (ad (1 + p 2)))) 2 (some (ad (1 + p 3)))) T (p 0) (hp 0 (by decide))
  refine x_aastN (pc' := 58) (f := (va_up (va_up (va_up (rfH ad p) 0 (some (ad (1 + p 1)))) 1 (some (ad (1 + p 2)))) 2 (some (ad (1 + p 3))))) (w' := wHf (kg k) h ad sz (va_up (va_up (va_up (va_up (rfH ad p) 0 (some (ad (1 + p 1)))) 1 (some (ad (1 + p 2)))) 2 (some (ad (1 + p 3)))) 3 (some (ad (1 + p 0)))) T) C B 1 qk rfl hqk (by decide) (by decide) dX0_dropOldest_57 rfl rfl ?_
  rw [rfH_drop]
  refine x_aload_n (pc' := 59) C dX0_dropOldest_58 rfl rfl rfl ?_
  refine x_aload_n (pc' := 60) C dX0_dropOldest_59 rfl rfl rfl ?_
  refine x_get (pc' := 63) (v := .ref (ad 0)) C 0 0 inBX0 rfl rfl (by decide) fl_X0_11 rfl rfl dX0_dropOldest_60 rfl ?_
  refine x_alenQ (pc' := 64) (v := 4) C 1 rfl (by decide) dX0_dropOldest_63 rfl ?_
  refine x_iconst (v := 1) (pc' := 65) C dX0_dropOldest_64 rfl (by decide) ?_
  refine x_isub (pc' := 66) (v := 3) C dX0_dropOldest_65 rfl (by decide) ?_
  refine x_put (pc' := 69) (w' := wHf (kg k) h ad 3 (rfH ad (dropP p)) T) (ty := .int) C B 0 1 inBX0 tyX0 tyX0_ok nmX0 rfl rfl (by decide) fl_X0_18 rfl rfl rfl rfl rfl (Nat.le_of_ble_eq_true rfl) dX0_dropOldest_66 rfl rfl ?_
  exact x_vret C (Nat.zero_le _) (Nat.zero_le _) dX0_dropOldest_69 ⟨rfl, rfl⟩
def putH (Q : HS) (S : CS) : HS := if Q.1.1 < 0 then Q else if Q.1.1 < 4 then ((Q.1.1 + 1, Q.1.2), va_up Q.2 (Q.1.2 Q.1.1.toNatClampNeg) (f_X5_copyFrom (Q.2 (Q.1.2 Q.1.1.toNatClampNeg)) S)) else Q
def f_X0_record (Q : HS) (S : CS) : HS := putH (if Q.1.1 < 4 then Q else dropH Q) S
def o_X0_record (Q : HS) (_ : CS) : Prop := okH Q
def f_X0_takeLatest (Q : HS) (S : CS) : Bool × HS × CS := if Q.1.1 - 1 < 0 then (false, Q, S) else if Q.1.1 - 1 < 4 then (true, ((Q.1.1 - 1, Q.1.2), Q.2), f_X5_copyFrom S (Q.2 (Q.1.2 (Q.1.1 - 1).toNatClampNeg))) else (false, Q, S)
def o_X0_takeLatest (Q : HS) (_ : CS) : Prop := okH Q
set_option maxRecDepth 100000 in
set_option maxHeartbeats 8000000 in
theorem c_X0_record (l : Launch) (g : GT) (h : Nat) (ad : Nat → Nat) (Q : HS) (h1 : Nat) (ad1 : Nat → Nat) (S : CS) (hok : o_X0_record Q S) : CW l yX0_record (.code yX0_record cX0_record 3 none) 3 g [.ref h, .ref h1] ((wHi g h ad Q) ++ (wSt g h1 ad1 S)) none ((wHi g h ad (f_X0_record Q S)) ++ (wSt g h1 ad1 S)) := by
  refine CWx.of (nL := 3) (ret := none) (own := RX0) (cc := cX0_record) rfl (by decide) rfl (List.forall_mem_cons.mpr ⟨rfl, (List.forall_mem_cons.mpr ⟨rfl, (fun _ h => absurd h List.not_mem_nil)⟩)⟩) (Nat.le_of_ble_eq_true rfl) ?_
  intro k C B hin hkl hkg
  subst hkl; subst hkg
  refine x_loc2 (L' := [some (.ref h), some (.ref h1), none]) rfl ?_
  refine x_aload_n (pc' := 1) C dX0_record_0 rfl rfl rfl ?_
  refine x_get (pc' := 4) (v := .int Q.1.1) C 0 1 inBX0 rfl rfl (by decide) fl_X0_18 rfl rfl dX0_record_1 rfl ?_
  refine x_iconst (v := 4) (pc' := 5) C dX0_record_4 rfl (by decide) ?_
  have go : ∀ Q1 : HS, okH Q1 → f_X0_record Q S = putH Q1 S → X k 0 0 ((wHi (kg k) h ad Q1) ++ (wSt (kg k) h1 ad1 S)) 12 [some (.ref h), some (.ref h1), none] [] := by
    intro Q1 ok1 hres
    obtain ⟨⟨sz, p⟩, T⟩ := Q1
    refine x_aload_n (pc' := 13) C dX0_record_12 rfl rfl rfl ?_
    refine x_aload_n (pc' := 14) C dX0_record_13 rfl rfl rfl ?_
    refine x_get (pc' := 17) (v := .int sz) C 0 1 inBX0 rfl rfl (by decide) fl_X0_18 rfl rfl dX0_record_14 rfl ?_
    refine x_RV (st := []) (st2 := [va_rf (atH (rfH ad p) sz)]) (pc' := 20) C (c_X0_stateAt (kl k) (kg k) h ad sz (rfH ad p) T sz) cw_X0_25 ok_X0_stateAt rfl (by decide) 0 rfl rfl [0, 1, 2, 3, 4, 5, 6, 7, 8, 9, 10, 11, 12, 13, 14, 15, 16, 17, 18, 19, 20, 21] rfl rfl rfl (Nat.le_of_ble_eq_true rfl) (Nat.zero_le _) (Nat.zero_le _) rfl dX0_record_17 rfl rfl ?_
    by_cases c1 : sz < 0
    · rw [show atH (rfH ad p) sz = none from by rw [atH, if_pos c1]]
      rw [show putH ((sz, p), T) S = ((sz, p), T) from by rw [putH, if_pos (show ((sz, p), T).1.1 < 0 from c1)]] at hres
      refine x_astore_nN (pc' := 21) (L' := [some (.ref h), some (.ref h1), some .null]) C dX0_record_20 rfl rfl (Nat.le_of_ble_eq_true rfl) rfl ?_
      refine x_aload_nN (pc' := 22) C dX0_record_21 rfl rfl rfl ?_
      refine x_ifnullN (tgt := 40) C dX0_record_22 (by decide) ?_
      exact x_vret C (Nat.zero_le _) (Nat.zero_le _) dX0_record_40 ⟨rfl, by rw [hres]⟩
    · by_cases c2 : sz < 4
      · obtain ⟨j, hj, rfl⟩ := vp_in_of (n := 4) (in_of (n := 4) c1 c2 (by decide)) (by decide)
        have ej : (nI j).toNatClampNeg = j := nI_clamp (by omega)
        rw [show atH (rfH ad p) (nI j) = some (ad (1 + p j)) from by rw [atH, if_neg c1, if_pos c2, ej]; rfl]
        rw [show putH ((nI j, p), T) S = ((nI j + 1, p), va_up T (p j) (f_X5_copyFrom (T (p j)) S)) from by rw [putH, if_neg (show ¬ ((nI j, p), T).1.1 < 0 from c1), if_pos (show ((nI j, p), T).1.1 < 4 from c2)]; show ((nI j + 1, p), va_up T (p (nI j).toNatClampNeg) (f_X5_copyFrom (T (p (nI j).toNatClampNeg)) S)) = _; rw [ej]] at hres
        have hm : p j < 4 := ok1 j hj
        generalize p j = m at hm hres ⊢
        refine x_astore_n (pc' := 21) (L' := [some (.ref h), some (.ref h1), some (.ref (ad (1 + m)))]) C dX0_record_20 rfl rfl (Nat.le_of_ble_eq_true rfl) rfl ?_
        refine x_aload_n (pc' := 22) C dX0_record_21 rfl rfl rfl ?_
        refine x_ifnull (pc' := 25) C dX0_record_22 rfl ?_
        refine x_aload_n (pc' := 26) C dX0_record_25 rfl rfl rfl ?_
        refine x_aload_n (pc' := 27) C dX0_record_26 rfl rfl rfl ?_
        obtain ⟨z1, ez1⟩ : ∃ z, z = f_X5_copyFrom (T m) S := ⟨_, rfl⟩
        rw [← ez1] at hres
        refine x_loc (w' := (wHi (kg k) h ad ((nI j, p), T)) ++ (wSt (kg k) h1 ad1 S)) rfl ?_
        have after : X k 0 0 ((wHi (kg k) h ad ((nI j, p), va_up T m z1)) ++ (wSt (kg k) h1 ad1 S)) 30 [some (.ref h), some (.ref h1), some (.ref (ad (1 + m)))] [] := by
          refine x_aload_n (pc' := 31) C dX0_record_30 rfl rfl rfl ?_
          refine x_dup (pc' := 32) C dX0_record_31 rfl rfl ?_
          refine x_get (pc' := 35) (v := .int (nI j)) C 0 1 inBX0 rfl rfl (by decide) fl_X0_18 rfl rfl dX0_record_32 rfl ?_
          refine x_iconst (v := 1) (pc' := 36) C dX0_record_35 rfl (by decide) ?_
          refine x_iadd (pc' := 37) (v := nI j + 1) C dX0_record_36 rfl rfl ?_
          refine x_put (pc' := 40) (w' := (wHi (kg k) h ad ((nI j + 1, p), va_up T m z1)) ++ (wSt (kg k) h1 ad1 S)) (ty := .int) C B 0 1 inBX0 tyX0 tyX0_ok nmX0 rfl rfl (by decide) fl_X0_18 rfl rfl rfl rfl rfl (Nat.le_of_ble_eq_true rfl) dX0_record_37 rfl rfl ?_
          exact x_vret C (Nat.zero_le _) (Nat.zero_le _) dX0_record_40 ⟨rfl, by rw [hres]⟩
        clear hres
        match m, hm, ez1, after with
        | 0, _, ez1, after =>
          have hc := c_X5_copyFrom (kl k) (kg k) (ad 1) (fun x => ad (10 + x)) (T 0) h1 ad1 S
          rw [← ez1] at hc
          exact x_WV (st := []) (st2 := []) (pc' := 30) C B hc cw_X0_29 ok_X5_copyFrom rfl (by decide) 2 rfl rfl [2, 3, 4, 5, 6, 22, 23, 24, 25, 26] [0, 1, 7, 8, 9, 10, 11, 12, 13, 14, 15, 16, 17, 18, 19, 20, 21] [0, 1, 17, 18, 19, 20, 21, 2, 3, 4, 5, 6, 7, 8, 9, 10, 11, 12, 13, 14, 15, 16, 22, 23, 24, 25, 26] ((wHi (kg k) h ad ((nI j, p), va_up T 0 z1)) ++ (wSt (kg k) h1 ad1 S)) rfl rfl rfl rfl (by decide) rfl rfl rfl (Nat.le_of_ble_eq_true rfl) (Nat.zero_le _) (Nat.zero_le _) rfl dX0_record_27 rfl rfl after
        | 1, _, ez1, after =>
          have hc := c_X5_copyFrom (kl k) (kg k) (ad 2) (fun x => ad (20 + x)) (T 1) h1 ad1 S
          rw [← ez1] at hc
          exact x_WV (st := []) (st2 := []) (pc' := 30) C B hc cw_X0_29 ok_X5_copyFrom rfl (by decide) 7 rfl rfl [7, 8, 9, 10, 11, 22, 23, 24, 25, 26] [0, 1, 2, 3, 4, 5, 6, 12, 13, 14, 15, 16, 17, 18, 19, 20, 21] [0, 1, 2, 3, 4, 5, 6, 17, 18, 19, 20, 21, 7, 8, 9, 10, 11, 12, 13, 14, 15, 16, 22, 23, 24, 25, 26] ((wHi (kg k) h ad ((nI j, p), va_up T 1 z1)) ++ (wSt (kg k) h1 ad1 S)) rfl rfl rfl rfl (by decide) rfl rfl rfl (Nat.le_of_ble_eq_true rfl) (Nat.zero_le _) (Nat.zero_le _) rfl dX0_record_27 rfl rfl after
        | 2, _, ez1, after =>
          have hc := c_X5_copyFrom (kl k) (kg k) (ad 3) (fun x => ad (30 + x)) (T 2) h1 ad1 S
          rw [← ez1] at hc
          exact x_WV (st := []) (st2 := []) (pc' := 30) C B hc cw_X0_29 ok_X5_copyFrom rfl (by decide) 12 rfl rfl [12, 13, 14, 15, 16, 22, 23, 24, 25, 26] [0, 1, 2, 3, 4, 5, 6, 7, 8, 9, 10, 11, 17, 18, 19, 20, 21] [0, 1, 2, 3, 4, 5, 6, 7, 8, 9, 10, 11, 17, 18, 19, 20, 21, 12, 13, 14, 15, 16, 22, 23, 24, 25, 26] ((wHi (kg k) h ad ((nI j, p), va_up T 2 z1)) ++ (wSt (kg k) h1 ad1 S)) rfl rfl rfl rfl (by decide) rfl rfl rfl (Nat.le_of_ble_eq_true rfl) (Nat.zero_le _) (Nat.zero_le _) rfl dX0_record_27 rfl rfl after
        | 3, _, ez1, after =>
          have hc := c_X5_copyFrom (kl k) (kg k) (ad 4) (fun x => ad (40 + x)) (T 3) h1 ad1 S
          rw [← ez1] at hc
          exact x_WV (st := []) (st2 := []) (pc' := 30) C B hc cw_X0_29 ok_X5_copyFrom rfl (by decide) 17 rfl rfl [17, 18, 19, 20, 21, 22, 23, 24, 25, 26] [0, 1, 2, 3, 4, 5, 6, 7, 8, 9, 10, 11, 12, 13, 14, 15, 16] [0, 1, 2, 3, 4, 5, 6, 7, 8, 9, 10, 11, 12, 13, 14, 15, 16, 17, 18, 19, 20, 21, 22, 23, 24, 25, 26] ((wHi (kg k) h ad ((nI j, p), va_up T 3 z1)) ++ (wSt (kg k) h1 ad1 S)) rfl rfl rfl rfl (by decide) rfl rfl rfl (Nat.le_of_ble_eq_true rfl) (Nat.zero_le _) (Nat.zero_le _) rfl dX0_record_27 rfl rfl after
      · rw [show atH (rfH ad p) sz = none from by rw [atH, if_neg c1, if_neg c2]]
        rw [show putH ((sz, p), T) S = ((sz, p), T) from by rw [putH, if_neg (show ¬ ((sz, p), T).1.1 < 0 from c1), if_neg (show ¬ ((sz, p), T).1.1 < 4 from c2)]] at hres
        refine x_astore_nN (pc' := 21) (L' := [some (.ref h), some (.ref h1), some .null]) C dX0_record_20 rfl rfl (Nat.le_of_ble_eq_true rfl) rfl ?_
        refine x_aload_nN (pc' := 22) C dX0_record_21 rfl rfl rfl ?_
        refine x_ifnullN (tgt := 40) C dX0_record_22 (by decide) ?_
        exact x_vret C (Nat.zero_le _) (Nat.zero_le _) dX0_record_40 ⟨rfl, by rw [hres]⟩
  refine x_icmp_lt (tgt := 12) (pc' := 8) C dX0_record_5 (by decide) rfl (fun c => ?_) (fun c => ?_)
  · exact go Q hok (by rw [f_X0_record, if_pos c])
  · refine x_aload_n (pc' := 9) C dX0_record_8 rfl rfl rfl ?_
    refine x_WV (st := []) (st2 := []) (pc' := 12) C B (c_X0_dropOldest (kl k) (kg k) h ad Q.1.1 Q.1.2 Q.2 hok) cw_X0_22 ok_X0_dropOldest rfl (by decide) 0 rfl rfl [0, 1, 2, 3, 4, 5, 6, 7, 8, 9, 10, 11, 12, 13, 14, 15, 16, 17, 18, 19, 20, 21] [22, 23, 24, 25, 26] [5, 6, 7, 8, 9, 10, 11, 12, 13, 14, 15, 16, 17, 18, 19, 20, 21, 22, 23, 24, 25, 26, 0, 1, 2, 3, 4] ((wHi (kg k) h ad (dropH Q)) ++ (wSt (kg k) h1 ad1 S)) rfl rfl rfl rfl (by decide) rfl rfl rfl (Nat.le_of_ble_eq_true rfl) (Nat.zero_le _) (Nat.zero_le _) rfl dX0_record_9 rfl rfl ?_
    exact go (dropH Q) (okH_drop hok) (by rw [f_X0_record, if_neg c])
set_option maxRecDepth 100000 in
set_option maxHeartbeats 8000000 in
theorem c_X0_takeLatest (l : Launch) (g : GT) (h : Nat) (ad : Nat → Nat) (Q : HS) (h1 : Nat) (ad1 : Nat → Nat) (S : CS) (hok : o_X0_takeLatest Q S) : CW l yX0_takeLatest (.code yX0_takeLatest cX0_takeLatest 3 (some .boolean)) 3 g [.ref h, .ref h1] ((wHi g h ad Q) ++ (wSt g h1 ad1 S)) (some (.int (bI (f_X0_takeLatest Q S).1))) ((wHi g h ad (f_X0_takeLatest Q S).2.1) ++ (wSt g h1 ad1 (f_X0_takeLatest Q S).2.2)) := by
  obtain ⟨res, hres⟩ : ∃ r, r = f_X0_takeLatest Q S := ⟨_, rfl⟩
  rw [← hres]
  rw [f_X0_takeLatest] at hres
  refine CWx.of (nL := 3) (ret := (some .boolean)) (own := RX0) (cc := cX0_takeLatest) rfl (by decide) rfl (List.forall_mem_cons.mpr ⟨rfl, (List.forall_mem_cons.mpr ⟨rfl, (fun _ h => absurd h List.not_mem_nil)⟩)⟩) (Nat.le_of_ble_eq_true rfl) ?_
  intro k C B hin hkl hkg
  subst hkl; subst hkg
  obtain ⟨⟨sz, p⟩, T⟩ := Q
  have ok1 : ∀ i, i < 4 → p i < 4 := hok
  refine x_loc2 (L' := [some (.ref h), some (.ref h1), none]) rfl ?_
  refine x_aload_n (pc' := 1) C dX0_takeLatest_0 rfl rfl rfl ?_
  refine x_aload_n (pc' := 2) C dX0_takeLatest_1 rfl rfl rfl ?_
  refine x_get (pc' := 5) (v := .int sz) C 0 1 inBX0 rfl rfl (by decide) fl_X0_18 rfl rfl dX0_takeLatest_2 rfl ?_
  refine x_iconst (v := 1) (pc' := 6) C dX0_takeLatest_5 rfl (by decide) ?_
  refine x_isub (pc' := 7) (v := sz - 1) C dX0_takeLatest_6 rfl rfl ?_
  refine x_RV (st := []) (st2 := [va_rf (atH (rfH ad p) (sz - 1))]) (pc' := 10) C (c_X0_stateAt (kl k) (kg k) h ad sz (rfH ad p) T (sz - 1)) cw_X0_25 ok_X0_stateAt rfl (by decide) 0 rfl rfl [0, 1, 2, 3, 4, 5, 6, 7, 8, 9, 10, 11, 12, 13, 14, 15, 16, 17, 18, 19, 20, 21] rfl rfl rfl (Nat.le_of_ble_eq_true rfl) (Nat.zero_le _) (Nat.zero_le _) rfl dX0_takeLatest_7 rfl rfl ?_
  by_cases c1 : sz - 1 < 0
  · rw [show atH (rfH ad p) (sz - 1) = none from by rw [atH, if_pos c1]]
    rw [if_pos (show ((sz, p), T).1.1 - 1 < 0 from c1)] at hres
    refine x_astore_nN (pc' := 11) (L' := [some (.ref h), some (.ref h1), some .null]) C dX0_takeLatest_10 rfl rfl (Nat.le_of_ble_eq_true rfl) rfl ?_
    refine x_aload_nN (pc' := 12) C dX0_takeLatest_11 rfl rfl rfl ?_
    refine x_ifnonnullN (pc' := 15) C dX0_takeLatest_12 rfl ?_
    refine x_iconst (v := 0) (pc' := 16) C dX0_takeLatest_15 rfl (by decide) ?_
    exact x_zret (b := false) C (Nat.zero_le _) (Nat.zero_le _) dX0_takeLatest_16 ⟨by rw [hres], by rw [hres]⟩
  · rw [if_neg (show ¬ ((sz, p), T).1.1 - 1 < 0 from c1)] at hres
    by_cases c2 : sz - 1 < 4
    · rw [if_pos (show ((sz, p), T).1.1 - 1 < 4 from c2)] at hres
      obtain ⟨j, hj, ejz⟩ := vp_in_of (n := 4) (in_of (n := 4) c1 c2 (by decide)) (by decide)
      have ej : (nI j).toNatClampNeg = j := nI_clamp (by omega)
      have hres : res = (true, ((sz - 1, p), T), f_X5_copyFrom S (T (p j))) := by rw [hres]; show (true, ((sz - 1, p), T), f_X5_copyFrom S (T (p (sz - 1).toNatClampNeg))) = _; rw [ejz, ej]
      rw [show atH (rfH ad p) (sz - 1) = some (ad (1 + p j)) from by rw [atH, if_neg c1, if_pos c2, ejz, ej]; rfl]
      have hm : p j < 4 := ok1 j hj
      generalize p j = m at hm hres ⊢
      refine x_astore_n (pc' := 11) (L' := [some (.ref h), some (.ref h1), some (.ref (ad (1 + m)))]) C dX0_takeLatest_10 rfl rfl (Nat.le_of_ble_eq_true rfl) rfl ?_
      refine x_aload_n (pc' := 12) C dX0_takeLatest_11 rfl rfl rfl ?_
      refine x_ifnonnull (tgt := 17) C dX0_takeLatest_12 (by decide) ?_
      refine x_aload_n (pc' := 18) C dX0_takeLatest_17 rfl rfl rfl ?_
      refine x_aload_n (pc' := 19) C dX0_takeLatest_18 rfl rfl rfl ?_
      obtain ⟨z1, ez1⟩ : ∃ z, z = f_X5_copyFrom S (T m) := ⟨_, rfl⟩
      rw [← ez1] at hres
      have after : X k 0 0 ((wHi (kg k) h ad ((sz, p), T)) ++ (wSt (kg k) h1 ad1 z1)) 22 [some (.ref h), some (.ref h1), some (.ref (ad (1 + m)))] [] := by
        refine x_aload_n (pc' := 23) C dX0_takeLatest_22 rfl rfl rfl ?_
        refine x_dup (pc' := 24) C dX0_takeLatest_23 rfl rfl ?_
        refine x_get (pc' := 27) (v := .int sz) C 0 1 inBX0 rfl rfl (by decide) fl_X0_18 rfl rfl dX0_takeLatest_24 rfl ?_
        refine x_iconst (v := 1) (pc' := 28) C dX0_takeLatest_27 rfl (by decide) ?_
        refine x_isub (pc' := 29) (v := sz - 1) C dX0_takeLatest_28 rfl rfl ?_
        refine x_put (pc' := 32) (w' := (wHi (kg k) h ad ((sz - 1, p), T)) ++ (wSt (kg k) h1 ad1 z1)) (ty := .int) C B 0 1 inBX0 tyX0 tyX0_ok nmX0 rfl rfl (by decide) fl_X0_18 rfl rfl rfl rfl rfl (Nat.le_of_ble_eq_true rfl) dX0_takeLatest_29 rfl rfl ?_
        refine x_iconst (v := 1) (pc' := 33) C dX0_takeLatest_32 rfl (by decide) ?_
        exact x_zret (b := true) C (Nat.zero_le _) (Nat.zero_le _) dX0_takeLatest_33 ⟨by rw [hres], by rw [hres]⟩
      clear hres
      match m, hm, ez1, after with
      | 0, _, ez1, after =>
        have hc := c_X5_copyFrom (kl k) (kg k) h1 ad1 S (ad 1) (fun x => ad (10 + x)) (T 0)
        rw [← ez1] at hc
        exact x_WV (st := []) (st2 := []) (pc' := 22) C B hc cw_X0_29 ok_X5_copyFrom rfl (by decide) 22 rfl rfl [22, 23, 24, 25, 26, 2, 3, 4, 5, 6] [0, 1, 7, 8, 9, 10, 11, 12, 13, 14, 15, 16, 17, 18, 19, 20, 21] [0, 1, 22, 23, 24, 25, 26, 2, 3, 4, 5, 6, 7, 8, 9, 10, 11, 12, 13, 14, 15, 16, 17, 18, 19, 20, 21] ((wHi (kg k) h ad ((sz, p), T)) ++ (wSt (kg k) h1 ad1 z1)) rfl rfl rfl rfl (by decide) rfl rfl rfl (Nat.le_of_ble_eq_true rfl) (Nat.zero_le _) (Nat.zero_le _) rfl dX0_takeLatest_19 rfl rfl after
      | 1, _, ez1, after =>
        have hc := c_X5_copyFrom (kl k) (kg k) h1 ad1 S (ad 2) (fun x => ad (20 + x)) (T 1)
        rw [← ez1] at hc
        exact x_WV (st := []) (st2 := []) (pc' := 22) C B hc cw_X0_29 ok_X5_copyFrom rfl (by decide) 22 rfl rfl [22, 23, 24, 25, 26, 7, 8, 9, 10, 11] [0, 1, 2, 3, 4, 5, 6, 12, 13, 14, 15, 16, 17, 18, 19, 20, 21] [0, 1, 2, 3, 4, 5, 6, 22, 23, 24, 25, 26, 7, 8, 9, 10, 11, 12, 13, 14, 15, 16, 17, 18, 19, 20, 21] ((wHi (kg k) h ad ((sz, p), T)) ++ (wSt (kg k) h1 ad1 z1)) rfl rfl rfl rfl (by decide) rfl rfl rfl (Nat.le_of_ble_eq_true rfl) (Nat.zero_le _) (Nat.zero_le _) rfl dX0_takeLatest_19 rfl rfl after
      | 2, _, ez1, after =>
        have hc := c_X5_copyFrom (kl k) (kg k) h1 ad1 S (ad 3) (fun x => ad (30 + x)) (T 2)
        rw [← ez1] at hc
        exact x_WV (st := []) (st2 := []) (pc' := 22) C B hc cw_X0_29 ok_X5_copyFrom rfl (by decide) 22 rfl rfl [22, 23, 24, 25, 26, 12, 13, 14, 15, 16] [0, 1, 2, 3, 4, 5, 6, 7, 8, 9, 10, 11, 17, 18, 19, 20, 21] [0, 1, 2, 3, 4, 5, 6, 7, 8, 9, 10, 11, 22, 23, 24, 25, 26, 12, 13, 14, 15, 16, 17, 18, 19, 20, 21] ((wHi (kg k) h ad ((sz, p), T)) ++ (wSt (kg k) h1 ad1 z1)) rfl rfl rfl rfl (by decide) rfl rfl rfl (Nat.le_of_ble_eq_true rfl) (Nat.zero_le _) (Nat.zero_le _) rfl dX0_takeLatest_19 rfl rfl after
      | 3, _, ez1, after =>
        have hc := c_X5_copyFrom (kl k) (kg k) h1 ad1 S (ad 4) (fun x => ad (40 + x)) (T 3)
        rw [← ez1] at hc
        exact x_WV (st := []) (st2 := []) (pc' := 22) C B hc cw_X0_29 ok_X5_copyFrom rfl (by decide) 22 rfl rfl [22, 23, 24, 25, 26, 17, 18, 19, 20, 21] [0, 1, 2, 3, 4, 5, 6, 7, 8, 9, 10, 11, 12, 13, 14, 15, 16] [0, 1, 2, 3, 4, 5, 6, 7, 8, 9, 10, 11, 12, 13, 14, 15, 16, 22, 23, 24, 25, 26, 17, 18, 19, 20, 21] ((wHi (kg k) h ad ((sz, p), T)) ++ (wSt (kg k) h1 ad1 z1)) rfl rfl rfl rfl (by decide) rfl rfl rfl (Nat.le_of_ble_eq_true rfl) (Nat.zero_le _) (Nat.zero_le _) rfl dX0_takeLatest_19 rfl rfl after
    · rw [if_neg (show ¬ ((sz, p), T).1.1 - 1 < 4 from c2)] at hres
      rw [show atH (rfH ad p) (sz - 1) = none from by rw [atH, if_neg c1, if_neg c2]]
      refine x_astore_nN (pc' := 11) (L' := [some (.ref h), some (.ref h1), some .null]) C dX0_takeLatest_10 rfl rfl (Nat.le_of_ble_eq_true rfl) rfl ?_
      refine x_aload_nN (pc' := 12) C dX0_takeLatest_11 rfl rfl rfl ?_
      refine x_ifnonnullN (pc' := 15) C dX0_takeLatest_12 rfl ?_
      refine x_iconst (v := 0) (pc' := 16) C dX0_takeLatest_15 rfl (by decide) ?_
      exact x_zret (b := false) C (Nat.zero_le _) (Nat.zero_le _) dX0_takeLatest_16 ⟨by rw [hres], by rw [hres]⟩
