def f_X7_asks (S : CS) (a1 : Int32) : Int32 × CS := (if (f_X7_isVersion S a1) = true then (bind1 (f_X7_cellsBetween S (f_X7_rootOf S a1) a1) (fun z5 => (bind1 (setF z5.2 0 (upd (z5.2.2 0) ((f_X7_of a1 4)).toNatClampNeg (((z5.2.2 0) ((f_X7_of a1 4)).toNatClampNeg) + 1))) (fun z8 => (bind1 (setF z8 0 (upd (z8.2 0) 314 (((z8.2 0) 314) + 1))) (fun z9 => (bind1 (setF z9 0 (upd (z9.2 0) 315 (((z9.2 0) 315) + (1 + z5.1)))) (fun z10 => (if ((z10.2 0) 313) < z10.1 11 then (if ((z10.2 0) ((f_X7_of a1 1)).toNatClampNeg) = ((z10.2 10) ((z10.1 11 - 1)).toNatClampNeg) then (if 0 < a1 then (bind1 (setF z10 0 (upd (z10.2 0) ((f_X7_of a1 2)).toNatClampNeg 0)) (fun z39 => (bind1 (setF z39 0 (upd (z39.2 0) ((f_X7_of a1 3)).toNatClampNeg 1)) (fun z41 => (bind1 (setF z41 0 (upd (z41.2 0) 317 (((z41.2 0) 317) + 1))) (fun z42 => ((1 + z5.1), z42))))))) else (bind1 (setF z10 0 (upd (z10.2 0) ((f_X7_of ((z10.2 10) ((z10.1 11 - 1)).toNatClampNeg) 2)).toNatClampNeg 0)) (fun z34 => (bind1 (setF z34 0 (upd (z34.2 0) ((f_X7_of a1 3)).toNatClampNeg 1)) (fun z36 => (bind1 (setF z36 0 (upd (z36.2 0) 317 (((z36.2 0) 317) + 1))) (fun z37 => ((1 + z5.1), z37)))))))) else (bind1 (setF z10 0 (upd (z10.2 0) ((f_X7_of ((z10.2 10) ((z10.1 11 - 1)).toNatClampNeg) 2)).toNatClampNeg 0)) (fun z28 => (bind1 (setF z28 0 (upd (z28.2 0) ((f_X7_of a1 3)).toNatClampNeg 1)) (fun z30 => (bind1 (setF z30 0 (upd (z30.2 0) 317 (((z30.2 0) 317) + 1))) (fun z31 => ((1 + z5.1), z31)))))))) else (if a1 = (f_X7_rootOf S a1) then ((1 + z5.1), z10) else (if ((z10.2 0) 312) = 1 then (bind1 (f_X7_becomesRoot z10 a1) (fun z15 => (bind1 (setF z15 0 (upd (z15.2 0) 316 (((z15.2 0) 316) + 1))) (fun z16 => ((1 + z5.1), z16))))) else (if ((z10.2 0) 312) = 2 then (if ((z10.2 0) ((f_X7_of (f_X7_rootOf S a1) 4)).toNatClampNeg) < ((z10.2 0) ((f_X7_of a1 4)).toNatClampNeg) then (bind1 (f_X7_becomesRoot z10 a1) (fun z22 => (bind1 (setF z22 0 (upd (z22.2 0) 316 (((z22.2 0) 316) + 1))) (fun z23 => ((1 + z5.1), z23))))) else ((1 + z5.1), z10)) else ((1 + z5.1), z10))))))))))))) else ((-1), S))
def o_X7_asks (S : CS) (a1 : Int32) : Prop := ((o_X7_isVersion S a1) ∧ (((f_X7_isVersion S a1) = true → ((o_X7_rootOf S a1) ∧ ((o_X7_cellsBetween S (f_X7_rootOf S a1) a1) ∧ (bind1 (f_X7_cellsBetween S (f_X7_rootOf S a1) a1) (fun z5 => (vp_in (f_X7_of a1 4) 318 ∧ (vp_in (f_X7_of a1 4) 318 ∧ (bind1 (setF z5.2 0 (upd (z5.2.2 0) ((f_X7_of a1 4)).toNatClampNeg (((z5.2.2 0) ((f_X7_of a1 4)).toNatClampNeg) + 1))) (fun z8 => (bind1 (setF z8 0 (upd (z8.2 0) 314 (((z8.2 0) 314) + 1))) (fun z9 => (bind1 (setF z9 0 (upd (z9.2 0) 315 (((z9.2 0) 315) + (1 + z5.1)))) (fun z10 => ((((z10.2 0) 313) < z10.1 11 → (vp_in (z10.1 11 - 1) 24 ∧ (vp_in (f_X7_of a1 1) 318 ∧ ((((z10.2 0) ((f_X7_of a1 1)).toNatClampNeg) = ((z10.2 10) ((z10.1 11 - 1)).toNatClampNeg) → ((0 < a1 → (vp_in (f_X7_of a1 2) 318 ∧ (bind1 (setF z10 0 (upd (z10.2 0) ((f_X7_of a1 2)).toNatClampNeg 0)) (fun z39 => (vp_in (f_X7_of a1 3) 318 ∧ (bind1 (setF z39 0 (upd (z39.2 0) ((f_X7_of a1 3)).toNatClampNeg 1)) (fun z41 => (bind1 (setF z41 0 (upd (z41.2 0) 317 (((z41.2 0) 317) + 1))) (fun z42 => True))))))))) ∧ (¬ (0 < a1) → (vp_in (f_X7_of ((z10.2 10) ((z10.1 11 - 1)).toNatClampNeg) 2) 318 ∧ (bind1 (setF z10 0 (upd (z10.2 0) ((f_X7_of ((z10.2 10) ((z10.1 11 - 1)).toNatClampNeg) 2)).toNatClampNeg 0)) (fun z34 => (vp_in (f_X7_of a1 3) 318 ∧ (bind1 (setF z34 0 (upd (z34.2 0) ((f_X7_of a1 3)).toNatClampNeg 1)) (fun z36 => (bind1 (setF z36 0 (upd (z36.2 0) 317 (((z36.2 0) 317) + 1))) (fun z37 => True))))))))))) ∧ (¬ ((z10.2 0) ((f_X7_of a1 1)).toNatClampNeg) = ((z10.2 10) ((z10.1 11 - 1)).toNatClampNeg) → (vp_in (f_X7_of ((z10.2 10) ((z10.1 11 - 1)).toNatClampNeg) 2) 318 ∧ (bind1 (setF z10 0 (upd (z10.2 0) ((f_X7_of ((z10.2 10) ((z10.1 11 - 1)).toNatClampNeg) 2)).toNatClampNeg 0)) (fun z28 => (vp_in (f_X7_of a1 3) 318 ∧ (bind1 (setF z28 0 (upd (z28.2 0) ((f_X7_of a1 3)).toNatClampNeg 1)) (fun z30 => (bind1 (setF z30 0 (upd (z30.2 0) 317 (((z30.2 0) 317) + 1))) (fun z31 => True))))))))))))) ∧ (¬ ((z10.2 0) 313) < z10.1 11 → ((a1 = (f_X7_rootOf S a1) → True) ∧ (¬ (a1 = (f_X7_rootOf S a1)) → ((((z10.2 0) 312) = 1 → ((o_X7_becomesRoot z10 a1) ∧ (bind1 (f_X7_becomesRoot z10 a1) (fun z15 => (bind1 (setF z15 0 (upd (z15.2 0) 316 (((z15.2 0) 316) + 1))) (fun z16 => True)))))) ∧ (¬ ((z10.2 0) 312) = 1 → ((((z10.2 0) 312) = 2 → (vp_in (f_X7_of a1 4) 318 ∧ (vp_in (f_X7_of (f_X7_rootOf S a1) 4) 318 ∧ ((((z10.2 0) ((f_X7_of (f_X7_rootOf S a1) 4)).toNatClampNeg) < ((z10.2 0) ((f_X7_of a1 4)).toNatClampNeg) → ((o_X7_becomesRoot z10 a1) ∧ (bind1 (f_X7_becomesRoot z10 a1) (fun z22 => (bind1 (setF z22 0 (upd (z22.2 0) 316 (((z22.2 0) 316) + 1))) (fun z23 => True)))))) ∧ (¬ ((z10.2 0) ((f_X7_of (f_X7_rootOf S a1) 4)).toNatClampNeg) < ((z10.2 0) ((f_X7_of a1 4)).toNatClampNeg) → True))))) ∧ (¬ ((z10.2 0) 312) = 2 → True))))))))))))))))))))) ∧ (¬ (f_X7_isVersion S a1) = true → True)))
set_option maxRecDepth 100000 in
set_option maxHeartbeats 8000000 in
theorem c_X7_asks (l : Launch) (g : GT) (h : Nat) (ad : Nat → Nat) (S : CS) (a1 : Int32) (hok : o_X7_asks S a1) : CW l yX7_asks (.code yX7_asks cX7_asks 6 (some .int)) 5 g [.ref h, .int a1] (wMo g h ad S) (some (.int (f_X7_asks S a1).1)) (wMo g h ad (f_X7_asks S a1).2) := by
  obtain ⟨RES, hRES⟩ : ∃ z, z = (f_X7_asks S a1) := ⟨_, rfl⟩
  rw [← hRES]
  unfold f_X7_asks at hRES
  unfold o_X7_asks at hok
  refine CWx.of (nL := 6) (ret := (some .int)) (own := RX7) (cc := cX7_asks) rfl (by decide) rfl (List.forall_mem_cons.mpr ⟨rfl, (List.forall_mem_cons.mpr ⟨rfl, (fun _ h => absurd h List.not_mem_nil)⟩)⟩) (Nat.le_of_ble_eq_true rfl) ?_
  intro k C B hin hkl hkg
  subst hkl; subst hkg
  refine x_loc2 (L' := [some (.ref h), some (.int a1), none, none, none, none]) rfl ?_
  refine x_aload_n (pc' := 1) C dX7_asks_0 rfl rfl rfl ?_
  refine x_iload_n (pc' := 2) C dX7_asks_1 rfl rfl rfl ?_
  obtain ⟨hn1, hok⟩ := hok
  refine x_RV (st := []) (st2 := [.int (bI (f_X7_isVersion S a1))]) (pc' := 5) C (c_X7_isVersion (kl k) (kg k) h ad S a1 hn1) cw_X7_72 ok_X7_isVersion rfl (by decide) 0 rfl rfl [0, 1, 2, 3, 4, 5, 6] rfl rfl rfl (Nat.le_of_ble_eq_true rfl) (Nat.zero_le _) (Nat.zero_le _) rfl dX7_asks_2 rfl rfl ?_
  refine x_ifB_ne (tgt := 10) (pc' := 8) C dX7_asks_5 (by decide) rfl (fun c2 => ?_) (fun c2 => ?_)
  · rw [if_pos c2] at hRES
    replace hok := hok.1 c2
    refine x_aload_n (pc' := 11) C dX7_asks_10 rfl rfl rfl ?_
    refine x_iload_n (pc' := 12) C dX7_asks_11 rfl rfl rfl ?_
    obtain ⟨hn3, hok⟩ := hok
    refine x_RV (st := []) (st2 := [.int (f_X7_rootOf S a1)]) (pc' := 15) C (c_X7_rootOf (kl k) (kg k) h ad S a1 hn3) cw_X7_84 ok_X7_rootOf rfl (by decide) 0 rfl rfl [0, 1, 2, 3, 4, 5, 6] rfl rfl rfl (Nat.le_of_ble_eq_true rfl) (Nat.zero_le _) (Nat.zero_le _) rfl dX7_asks_12 rfl rfl ?_
    refine x_istore_n (pc' := 16) (L' := [some (.ref h), some (.int a1), some (.int (f_X7_rootOf S a1)), none, none, none]) C dX7_asks_15 rfl rfl (Nat.le_of_ble_eq_true rfl) rfl ?_
    refine x_iconst (v := 1) (pc' := 17) C dX7_asks_16 rfl (by decide) ?_
    refine x_aload_n (pc' := 18) C dX7_asks_17 rfl rfl rfl ?_
    refine x_iload_n (pc' := 19) C dX7_asks_18 rfl rfl rfl ?_
    refine x_iload_n (pc' := 20) C dX7_asks_19 rfl rfl rfl ?_
    obtain ⟨hn4, hok⟩ := hok
    obtain ⟨z5, ez5⟩ : ∃ z, z = (f_X7_cellsBetween S (f_X7_rootOf S a1) a1) := ⟨_, rfl⟩
    replace hRES := bd hRES z5 ez5
    replace hok := bdP hok z5 ez5
    have hc := c_X7_cellsBetween (kl k) (kg k) h ad S (f_X7_rootOf S a1) a1 hn4
    rw [← ez5] at hc
    refine x_WV (st := [.int 1]) (st2 := [.int z5.1, .int 1]) (pc' := 23) C B hc cw_X7_87 ok_X7_cellsBetween rfl (by decide) 0 rfl rfl [0, 1, 2, 3, 4, 5, 6] [] [0, 1, 2, 3, 4, 5, 6] (wMo (kg k) h ad z5.2) rfl rfl rfl rfl (by decide) rfl rfl rfl (Nat.le_of_ble_eq_true rfl) (Nat.zero_le _) (Nat.zero_le _) rfl dX7_asks_20 rfl rfl ?_
    refine x_iadd (pc' := 24) (v := (1 + z5.1)) C dX7_asks_23 rfl rfl ?_
    refine x_istore_n (pc' := 25) (L' := [some (.ref h), some (.int a1), some (.int (f_X7_rootOf S a1)), some (.int (1 + z5.1)), none, none]) C dX7_asks_24 rfl rfl (Nat.le_of_ble_eq_true rfl) rfl ?_
    refine x_aload_n (pc' := 26) C dX7_asks_25 rfl rfl rfl ?_
    refine x_get (pc' := 29) (v := .ref (ad 0)) C 0 0 inBX7 rfl rfl (by decide) fl_X7_7 rfl rfl dX7_asks_26 rfl ?_
    refine x_iload_n (pc' := 30) C dX7_asks_29 rfl rfl rfl ?_
    refine x_iconst (v := 4) (pc' := 31) C dX7_asks_30 rfl (by decide) ?_
    refine x_RS (st := [.ref (ad 0)]) (st2 := [.int (f_X7_of a1 4), .ref (ad 0)]) (pc' := 34) C (c_X7_of (kl k) (kg k) a1 4) cw_X7_32 ok_X7_of (by decide) [] rfl rfl rfl (Nat.le_of_ble_eq_true rfl) (Nat.zero_le _) (Nat.zero_le _) rfl dX7_asks_31 rfl rfl ?_
    refine x_dup2 (pc' := 35) C dX7_asks_34 rfl rfl rfl ?_
    obtain ⟨hn6, hok⟩ := hok
    refine x_iald (pc' := 36) (f := z5.2.2 0) (v := ((z5.2.2 0) ((f_X7_of a1 4)).toNatClampNeg)) C 1 rfl hn6 rfl dX7_asks_35 rfl ?_
    refine x_iconst (v := 1) (pc' := 37) C dX7_asks_36 rfl (by decide) ?_
    refine x_iadd (pc' := 38) (v := (((z5.2.2 0) ((f_X7_of a1 4)).toNatClampNeg) + 1)) C dX7_asks_37 rfl rfl ?_
    obtain ⟨hn7, hok⟩ := hok
    obtain ⟨z8, ez8⟩ : ∃ z, z = (setF z5.2 0 (upd (z5.2.2 0) ((f_X7_of a1 4)).toNatClampNeg (((z5.2.2 0) ((f_X7_of a1 4)).toNatClampNeg) + 1))) := ⟨_, rfl⟩
    replace hRES := bd hRES z8 ez8
    replace hok := bdP hok z8 ez8
    refine x_iast (pc' := 39) (f := z5.2.2 0) (w' := wMo (kg k) h ad z8) C B 1 rfl hn7 dX7_asks_38 rfl (by rw [ez8]; rfl) ?_
    refine x_aload_n (pc' := 40) C dX7_asks_39 rfl rfl rfl ?_
    refine x_get (pc' := 43) (v := .ref (ad 0)) C 0 0 inBX7 rfl rfl (by decide) fl_X7_7 rfl rfl dX7_asks_40 rfl ?_
    refine x_sipush (v := 314) (pc' := 46) C dX7_asks_43 rfl (by decide) ?_
    refine x_dup2 (pc' := 47) C dX7_asks_46 rfl rfl rfl ?_
    refine x_ialdN (pc' := 48) (f := z8.2 0) (j := 314) (v := ((z8.2 0) 314)) C 1 rfl (by decide) (by decide) rfl dX7_asks_47 rfl ?_
    refine x_iconst (v := 1) (pc' := 49) C dX7_asks_48 rfl (by decide) ?_
    refine x_iadd (pc' := 50) (v := (((z8.2 0) 314) + 1)) C dX7_asks_49 rfl rfl ?_
    obtain ⟨z9, ez9⟩ : ∃ z, z = (setF z8 0 (upd (z8.2 0) 314 (((z8.2 0) 314) + 1))) := ⟨_, rfl⟩
    replace hRES := bd hRES z9 ez9
    replace hok := bdP hok z9 ez9
    refine x_iastN (pc' := 51) (f := z8.2 0) (j := 314) (w' := wMo (kg k) h ad z9) C B 1 rfl (by decide) (by decide) dX7_asks_50 rfl (by rw [ez9]; rfl) ?_
    refine x_aload_n (pc' := 52) C dX7_asks_51 rfl rfl rfl ?_
    refine x_get (pc' := 55) (v := .ref (ad 0)) C 0 0 inBX7 rfl rfl (by decide) fl_X7_7 rfl rfl dX7_asks_52 rfl ?_
    refine x_sipush (v := 315) (pc' := 58) C dX7_asks_55 rfl (by decide) ?_
    refine x_dup2 (pc' := 59) C dX7_asks_58 rfl rfl rfl ?_
    refine x_ialdN (pc' := 60) (f := z9.2 0) (j := 315) (v := ((z9.2 0) 315)) C 1 rfl (by decide) (by decide) rfl dX7_asks_59 rfl ?_
    refine x_iload_n (pc' := 61) C dX7_asks_60 rfl rfl rfl ?_
    refine x_iadd (pc' := 62) (v := (((z9.2 0) 315) + (1 + z5.1))) C dX7_asks_61 rfl rfl ?_
    obtain ⟨z10, ez10⟩ : ∃ z, z = (setF z9 0 (upd (z9.2 0) 315 (((z9.2 0) 315) + (1 + z5.1)))) := ⟨_, rfl⟩
    replace hRES := bd hRES z10 ez10
    replace hok := bdP hok z10 ez10
    refine x_iastN (pc' := 63) (f := z9.2 0) (j := 315) (w' := wMo (kg k) h ad z10) C B 1 rfl (by decide) (by decide) dX7_asks_62 rfl (by rw [ez10]; rfl) ?_
    refine x_aload_n (pc' := 64) C dX7_asks_63 rfl rfl rfl ?_
    refine x_get (pc' := 67) (v := .int (z10.1 11)) C 0 11 inBX7 rfl rfl (by decide) fl_X7_51 rfl rfl dX7_asks_64 rfl ?_
    refine x_aload_n (pc' := 68) C dX7_asks_67 rfl rfl rfl ?_
    refine x_get (pc' := 71) (v := .ref (ad 0)) C 0 0 inBX7 rfl rfl (by decide) fl_X7_7 rfl rfl dX7_asks_68 rfl ?_
    refine x_sipush (v := 313) (pc' := 74) C dX7_asks_71 rfl (by decide) ?_
    refine x_ialdN (pc' := 75) (f := z10.2 0) (j := 313) (v := ((z10.2 0) 313)) C 1 rfl (by decide) (by decide) rfl dX7_asks_74 rfl ?_
    refine x_icmp_le (tgt := 156) (pc' := 78) C dX7_asks_75 (by decide) rfl (fun c11 => ?_) (fun c11 => ?_)
    · rw [if_neg c11] at hRES
      replace hok := hok.2 c11
      refine x_iload_n (pc' := 157) C dX7_asks_156 rfl rfl rfl ?_
      refine x_iload_n (pc' := 158) C dX7_asks_157 rfl rfl rfl ?_
      refine x_icmp_eq (tgt := 225) (pc' := 161) C dX7_asks_158 (by decide) rfl (fun c12 => ?_) (fun c12 => ?_)
      · rw [if_pos c12] at hRES
        replace hok := hok.1 c12
        refine x_iload_n (pc' := 226) C dX7_asks_225 rfl rfl rfl ?_
        exact x_iret C (Nat.zero_le _) (Nat.zero_le _) dX7_asks_226 ⟨by rw [hRES], by rw [hRES]⟩
      · rw [if_neg c12] at hRES
        replace hok := hok.2 c12
        refine x_aload_n (pc' := 162) C dX7_asks_161 rfl rfl rfl ?_
        refine x_get (pc' := 165) (v := .ref (ad 0)) C 0 0 inBX7 rfl rfl (by decide) fl_X7_7 rfl rfl dX7_asks_162 rfl ?_
        refine x_sipush (v := 312) (pc' := 168) C dX7_asks_165 rfl (by decide) ?_
        refine x_ialdN (pc' := 169) (f := z10.2 0) (j := 312) (v := ((z10.2 0) 312)) C 1 rfl (by decide) (by decide) rfl dX7_asks_168 rfl ?_
        refine x_iconst (v := 1) (pc' := 170) C dX7_asks_169 rfl (by decide) ?_
        refine x_icmp_eq (tgt := 208) (pc' := 173) C dX7_asks_170 (by decide) rfl (fun c13 => ?_) (fun c13 => ?_)
        · rw [if_pos c13] at hRES
          replace hok := hok.1 c13
          refine x_aload_n (pc' := 209) C dX7_asks_208 rfl rfl rfl ?_
          refine x_iload_n (pc' := 210) C dX7_asks_209 rfl rfl rfl ?_
          obtain ⟨hn14, hok⟩ := hok
          obtain ⟨z15, ez15⟩ : ∃ z, z = (f_X7_becomesRoot z10 a1) := ⟨_, rfl⟩
          replace hRES := bd hRES z15 ez15
          replace hok := bdP hok z15 ez15
          have hc := c_X7_becomesRoot (kl k) (kg k) h ad z10 a1 hn14
          rw [← ez15] at hc
          refine x_WV (st := []) (st2 := []) (pc' := 213) C B hc cw_X7_90 ok_X7_becomesRoot rfl (by decide) 0 rfl rfl [0, 1, 2, 3, 4, 5, 6] [] [0, 1, 2, 3, 4, 5, 6] (wMo (kg k) h ad z15) rfl rfl rfl rfl (by decide) rfl rfl rfl (Nat.le_of_ble_eq_true rfl) (Nat.zero_le _) (Nat.zero_le _) rfl dX7_asks_210 rfl rfl ?_
          refine x_aload_n (pc' := 214) C dX7_asks_213 rfl rfl rfl ?_
          refine x_get (pc' := 217) (v := .ref (ad 0)) C 0 0 inBX7 rfl rfl (by decide) fl_X7_7 rfl rfl dX7_asks_214 rfl ?_
          refine x_sipush (v := 316) (pc' := 220) C dX7_asks_217 rfl (by decide) ?_
          refine x_dup2 (pc' := 221) C dX7_asks_220 rfl rfl rfl ?_
          refine x_ialdN (pc' := 222) (f := z15.2 0) (j := 316) (v := ((z15.2 0) 316)) C 1 rfl (by decide) (by decide) rfl dX7_asks_221 rfl ?_
          refine x_iconst (v := 1) (pc' := 223) C dX7_asks_222 rfl (by decide) ?_
          refine x_iadd (pc' := 224) (v := (((z15.2 0) 316) + 1)) C dX7_asks_223 rfl rfl ?_
          obtain ⟨z16, ez16⟩ : ∃ z, z = (setF z15 0 (upd (z15.2 0) 316 (((z15.2 0) 316) + 1))) := ⟨_, rfl⟩
          replace hRES := bd hRES z16 ez16
          replace hok := bdP hok z16 ez16
          refine x_iastN (pc' := 225) (f := z15.2 0) (j := 316) (w' := wMo (kg k) h ad z16) C B 1 rfl (by decide) (by decide) dX7_asks_224 rfl (by rw [ez16]; rfl) ?_
          refine x_iload_n (pc' := 226) C dX7_asks_225 rfl rfl rfl ?_
          exact x_iret C (Nat.zero_le _) (Nat.zero_le _) dX7_asks_226 ⟨by rw [hRES], by rw [hRES]⟩
        · rw [if_neg c13] at hRES
          replace hok := hok.2 c13
          refine x_aload_n (pc' := 174) C dX7_asks_173 rfl rfl rfl ?_
          refine x_get (pc' := 177) (v := .ref (ad 0)) C 0 0 inBX7 rfl rfl (by decide) fl_X7_7 rfl rfl dX7_asks_174 rfl ?_
          refine x_sipush (v := 312) (pc' := 180) C dX7_asks_177 rfl (by decide) ?_
          refine x_ialdN (pc' := 181) (f := z10.2 0) (j := 312) (v := ((z10.2 0) 312)) C 1 rfl (by decide) (by decide) rfl dX7_asks_180 rfl ?_
          refine x_iconst (v := 2) (pc' := 182) C dX7_asks_181 rfl (by decide) ?_
          refine x_icmp_ne (tgt := 225) (pc' := 185) C dX7_asks_182 (by decide) rfl (fun c17 => ?_) (fun c17 => ?_)
          · rw [if_neg c17] at hRES
            replace hok := hok.2 c17
            refine x_iload_n (pc' := 226) C dX7_asks_225 rfl rfl rfl ?_
            exact x_iret C (Nat.zero_le _) (Nat.zero_le _) dX7_asks_226 ⟨by rw [hRES], by rw [hRES]⟩
          · rw [if_pos c17] at hRES
            replace hok := hok.1 c17
            refine x_aload_n (pc' := 186) C dX7_asks_185 rfl rfl rfl ?_
            refine x_get (pc' := 189) (v := .ref (ad 0)) C 0 0 inBX7 rfl rfl (by decide) fl_X7_7 rfl rfl dX7_asks_186 rfl ?_
            refine x_iload_n (pc' := 190) C dX7_asks_189 rfl rfl rfl ?_
            refine x_iconst (v := 4) (pc' := 191) C dX7_asks_190 rfl (by decide) ?_
            refine x_RS (st := [.ref (ad 0)]) (st2 := [.int (f_X7_of a1 4), .ref (ad 0)]) (pc' := 194) C (c_X7_of (kl k) (kg k) a1 4) cw_X7_32 ok_X7_of (by decide) [] rfl rfl rfl (Nat.le_of_ble_eq_true rfl) (Nat.zero_le _) (Nat.zero_le _) rfl dX7_asks_191 rfl rfl ?_
            obtain ⟨hn18, hok⟩ := hok
            refine x_iald (pc' := 195) (f := z10.2 0) (v := ((z10.2 0) ((f_X7_of a1 4)).toNatClampNeg)) C 1 rfl hn18 rfl dX7_asks_194 rfl ?_
            refine x_aload_n (pc' := 196) C dX7_asks_195 rfl rfl rfl ?_
            refine x_get (pc' := 199) (v := .ref (ad 0)) C 0 0 inBX7 rfl rfl (by decide) fl_X7_7 rfl rfl dX7_asks_196 rfl ?_
            refine x_iload_n (pc' := 200) C dX7_asks_199 rfl rfl rfl ?_
            refine x_iconst (v := 4) (pc' := 201) C dX7_asks_200 rfl (by decide) ?_
            refine x_RS (st := [.ref (ad 0), .int ((z10.2 0) ((f_X7_of a1 4)).toNatClampNeg)]) (st2 := [.int (f_X7_of (f_X7_rootOf S a1) 4), .ref (ad 0), .int ((z10.2 0) ((f_X7_of a1 4)).toNatClampNeg)]) (pc' := 204) C (c_X7_of (kl k) (kg k) (f_X7_rootOf S a1) 4) cw_X7_32 ok_X7_of (by decide) [] rfl rfl rfl (Nat.le_of_ble_eq_true rfl) (Nat.zero_le _) (Nat.zero_le _) rfl dX7_asks_201 rfl rfl ?_
            obtain ⟨hn19, hok⟩ := hok
            refine x_iald (pc' := 205) (f := z10.2 0) (v := ((z10.2 0) ((f_X7_of (f_X7_rootOf S a1) 4)).toNatClampNeg)) C 1 rfl hn19 rfl dX7_asks_204 rfl ?_
            refine x_icmp_le (tgt := 225) (pc' := 208) C dX7_asks_205 (by decide) rfl (fun c20 => ?_) (fun c20 => ?_)
            · rw [if_neg c20] at hRES
              replace hok := hok.2 c20
              refine x_iload_n (pc' := 226) C dX7_asks_225 rfl rfl rfl ?_
              exact x_iret C (Nat.zero_le _) (Nat.zero_le _) dX7_asks_226 ⟨by rw [hRES], by rw [hRES]⟩
            · rw [if_pos c20] at hRES
              replace hok := hok.1 c20
              refine x_aload_n (pc' := 209) C dX7_asks_208 rfl rfl rfl ?_
              refine x_iload_n (pc' := 210) C dX7_asks_209 rfl rfl rfl ?_
              obtain ⟨hn21, hok⟩ := hok
              obtain ⟨z22, ez22⟩ : ∃ z, z = (f_X7_becomesRoot z10 a1) := ⟨_, rfl⟩
              replace hRES := bd hRES z22 ez22
              replace hok := bdP hok z22 ez22
              have hc := c_X7_becomesRoot (kl k) (kg k) h ad z10 a1 hn21
              rw [← ez22] at hc
              refine x_WV (st := []) (st2 := []) (pc' := 213) C B hc cw_X7_90 ok_X7_becomesRoot rfl (by decide) 0 rfl rfl [0, 1, 2, 3, 4, 5, 6] [] [0, 1, 2, 3, 4, 5, 6] (wMo (kg k) h ad z22) rfl rfl rfl rfl (by decide) rfl rfl rfl (Nat.le_of_ble_eq_true rfl) (Nat.zero_le _) (Nat.zero_le _) rfl dX7_asks_210 rfl rfl ?_
              refine x_aload_n (pc' := 214) C dX7_asks_213 rfl rfl rfl ?_
              refine x_get (pc' := 217) (v := .ref (ad 0)) C 0 0 inBX7 rfl rfl (by decide) fl_X7_7 rfl rfl dX7_asks_214 rfl ?_
              refine x_sipush (v := 316) (pc' := 220) C dX7_asks_217 rfl (by decide) ?_
              refine x_dup2 (pc' := 221) C dX7_asks_220 rfl rfl rfl ?_
              refine x_ialdN (pc' := 222) (f := z22.2 0) (j := 316) (v := ((z22.2 0) 316)) C 1 rfl (by decide) (by decide) rfl dX7_asks_221 rfl ?_
              refine x_iconst (v := 1) (pc' := 223) C dX7_asks_222 rfl (by decide) ?_
              refine x_iadd (pc' := 224) (v := (((z22.2 0) 316) + 1)) C dX7_asks_223 rfl rfl ?_
              obtain ⟨z23, ez23⟩ : ∃ z, z = (setF z22 0 (upd (z22.2 0) 316 (((z22.2 0) 316) + 1))) := ⟨_, rfl⟩
              replace hRES := bd hRES z23 ez23
              replace hok := bdP hok z23 ez23
              refine x_iastN (pc' := 225) (f := z22.2 0) (j := 316) (w' := wMo (kg k) h ad z23) C B 1 rfl (by decide) (by decide) dX7_asks_224 rfl (by rw [ez23]; rfl) ?_
              refine x_iload_n (pc' := 226) C dX7_asks_225 rfl rfl rfl ?_
              exact x_iret C (Nat.zero_le _) (Nat.zero_le _) dX7_asks_226 ⟨by rw [hRES], by rw [hRES]⟩
    · rw [if_pos c11] at hRES
      replace hok := hok.1 c11
      refine x_aload_n (pc' := 79) C dX7_asks_78 rfl rfl rfl ?_
      refine x_get (pc' := 82) (v := .ref (ad 10)) C 0 10 inBX7 rfl rfl (by decide) fl_X7_29 rfl rfl dX7_asks_79 rfl ?_
      refine x_aload_n (pc' := 83) C dX7_asks_82 rfl rfl rfl ?_
      refine x_get (pc' := 86) (v := .int (z10.1 11)) C 0 11 inBX7 rfl rfl (by decide) fl_X7_51 rfl rfl dX7_asks_83 rfl ?_
      refine x_iconst (v := 1) (pc' := 87) C dX7_asks_86 rfl (by decide) ?_
      refine x_isub (pc' := 88) (v := (z10.1 11 - 1)) C dX7_asks_87 rfl rfl ?_
      obtain ⟨hn24, hok⟩ := hok
      refine x_iald (pc' := 89) (f := z10.2 10) (v := ((z10.2 10) ((z10.1 11 - 1)).toNatClampNeg)) C 6 rfl hn24 rfl dX7_asks_88 rfl ?_
      refine x_istore (pc' := 91) (L' := [some (.ref h), some (.int a1), some (.int (f_X7_rootOf S a1)), some (.int (1 + z5.1)), some (.int ((z10.2 10) ((z10.1 11 - 1)).toNatClampNeg)), none]) C dX7_asks_89 rfl (Nat.le_of_ble_eq_true rfl) rfl ?_
      refine x_aload_n (pc' := 92) C dX7_asks_91 rfl rfl rfl ?_
      refine x_get (pc' := 95) (v := .ref (ad 0)) C 0 0 inBX7 rfl rfl (by decide) fl_X7_7 rfl rfl dX7_asks_92 rfl ?_
      refine x_iload_n (pc' := 96) C dX7_asks_95 rfl rfl rfl ?_
      refine x_iconst (v := 1) (pc' := 97) C dX7_asks_96 rfl (by decide) ?_
      refine x_RS (st := [.ref (ad 0)]) (st2 := [.int (f_X7_of a1 1), .ref (ad 0)]) (pc' := 100) C (c_X7_of (kl k) (kg k) a1 1) cw_X7_32 ok_X7_of (by decide) [] rfl rfl rfl (Nat.le_of_ble_eq_true rfl) (Nat.zero_le _) (Nat.zero_le _) rfl dX7_asks_97 rfl rfl ?_
      obtain ⟨hn25, hok⟩ := hok
      refine x_iald (pc' := 101) (f := z10.2 0) (v := ((z10.2 0) ((f_X7_of a1 1)).toNatClampNeg)) C 1 rfl hn25 rfl dX7_asks_100 rfl ?_
      refine x_iload (pc' := 103) C dX7_asks_101 rfl rfl ?_
      refine x_icmp_ne (tgt := 114) (pc' := 106) C dX7_asks_103 (by decide) rfl (fun c26 => ?_) (fun c26 => ?_)
      · rw [if_neg c26] at hRES
        replace hok := hok.2 c26
        refine x_iload (pc' := 116) C dX7_asks_114 rfl rfl ?_
        refine x_istore (pc' := 118) (L' := [some (.ref h), some (.int a1), some (.int (f_X7_rootOf S a1)), some (.int (1 + z5.1)), some (.int ((z10.2 10) ((z10.1 11 - 1)).toNatClampNeg)), some (.int ((z10.2 10) ((z10.1 11 - 1)).toNatClampNeg))]) C dX7_asks_116 rfl (Nat.le_of_ble_eq_true rfl) rfl ?_
        refine x_aload_n (pc' := 119) C dX7_asks_118 rfl rfl rfl ?_
        refine x_get (pc' := 122) (v := .ref (ad 0)) C 0 0 inBX7 rfl rfl (by decide) fl_X7_7 rfl rfl dX7_asks_119 rfl ?_
        refine x_iload (pc' := 124) C dX7_asks_122 rfl rfl ?_
        refine x_iconst (v := 2) (pc' := 125) C dX7_asks_124 rfl (by decide) ?_
        refine x_RS (st := [.ref (ad 0)]) (st2 := [.int (f_X7_of ((z10.2 10) ((z10.1 11 - 1)).toNatClampNeg) 2), .ref (ad 0)]) (pc' := 128) C (c_X7_of (kl k) (kg k) ((z10.2 10) ((z10.1 11 - 1)).toNatClampNeg) 2) cw_X7_32 ok_X7_of (by decide) [] rfl rfl rfl (Nat.le_of_ble_eq_true rfl) (Nat.zero_le _) (Nat.zero_le _) rfl dX7_asks_125 rfl rfl ?_
        refine x_iconst (v := 0) (pc' := 129) C dX7_asks_128 rfl (by decide) ?_
        obtain ⟨hn27, hok⟩ := hok
        obtain ⟨z28, ez28⟩ : ∃ z, z = (setF z10 0 (upd (z10.2 0) ((f_X7_of ((z10.2 10) ((z10.1 11 - 1)).toNatClampNeg) 2)).toNatClampNeg 0)) := ⟨_, rfl⟩
        replace hRES := bd hRES z28 ez28
        replace hok := bdP hok z28 ez28
        refine x_iast (pc' := 130) (f := z10.2 0) (w' := wMo (kg k) h ad z28) C B 1 rfl hn27 dX7_asks_129 rfl (by rw [ez28]; rfl) ?_
        refine x_aload_n (pc' := 131) C dX7_asks_130 rfl rfl rfl ?_
        refine x_get (pc' := 134) (v := .ref (ad 0)) C 0 0 inBX7 rfl rfl (by decide) fl_X7_7 rfl rfl dX7_asks_131 rfl ?_
        refine x_iload_n (pc' := 135) C dX7_asks_134 rfl rfl rfl ?_
        refine x_iconst (v := 3) (pc' := 136) C dX7_asks_135 rfl (by decide) ?_
        refine x_RS (st := [.ref (ad 0)]) (st2 := [.int (f_X7_of a1 3), .ref (ad 0)]) (pc' := 139) C (c_X7_of (kl k) (kg k) a1 3) cw_X7_32 ok_X7_of (by decide) [] rfl rfl rfl (Nat.le_of_ble_eq_true rfl) (Nat.zero_le _) (Nat.zero_le _) rfl dX7_asks_136 rfl rfl ?_
        refine x_iconst (v := 1) (pc' := 140) C dX7_asks_139 rfl (by decide) ?_
        obtain ⟨hn29, hok⟩ := hok
        obtain ⟨z30, ez30⟩ : ∃ z, z = (setF z28 0 (upd (z28.2 0) ((f_X7_of a1 3)).toNatClampNeg 1)) := ⟨_, rfl⟩
        replace hRES := bd hRES z30 ez30
        replace hok := bdP hok z30 ez30
        refine x_iast (pc' := 141) (f := z28.2 0) (w' := wMo (kg k) h ad z30) C B 1 rfl hn29 dX7_asks_140 rfl (by rw [ez30]; rfl) ?_
        refine x_aload_n (pc' := 142) C dX7_asks_141 rfl rfl rfl ?_
        refine x_get (pc' := 145) (v := .ref (ad 0)) C 0 0 inBX7 rfl rfl (by decide) fl_X7_7 rfl rfl dX7_asks_142 rfl ?_
        refine x_sipush (v := 317) (pc' := 148) C dX7_asks_145 rfl (by decide) ?_
        refine x_dup2 (pc' := 149) C dX7_asks_148 rfl rfl rfl ?_
        refine x_ialdN (pc' := 150) (f := z30.2 0) (j := 317) (v := ((z30.2 0) 317)) C 1 rfl (by decide) (by decide) rfl dX7_asks_149 rfl ?_
        refine x_iconst (v := 1) (pc' := 151) C dX7_asks_150 rfl (by decide) ?_
        refine x_iadd (pc' := 152) (v := (((z30.2 0) 317) + 1)) C dX7_asks_151 rfl rfl ?_
        obtain ⟨z31, ez31⟩ : ∃ z, z = (setF z30 0 (upd (z30.2 0) 317 (((z30.2 0) 317) + 1))) := ⟨_, rfl⟩
        replace hRES := bd hRES z31 ez31
        replace hok := bdP hok z31 ez31
        refine x_iastN (pc' := 153) (f := z30.2 0) (j := 317) (w' := wMo (kg k) h ad z31) C B 1 rfl (by decide) (by decide) dX7_asks_152 rfl (by rw [ez31]; rfl) ?_
        refine x_goto (tgt := 225) C dX7_asks_153 (by decide) ?_
        refine x_iload_n (pc' := 226) C dX7_asks_225 rfl rfl rfl ?_
        exact x_iret C (Nat.zero_le _) (Nat.zero_le _) dX7_asks_226 ⟨by rw [hRES], by rw [hRES]⟩
      · rw [if_pos c26] at hRES
        replace hok := hok.1 c26
        refine x_iload_n (pc' := 107) C dX7_asks_106 rfl rfl rfl ?_
        refine x_if_le (tgt := 114) (pc' := 110) C dX7_asks_107 (by decide) rfl (fun c32 => ?_) (fun c32 => ?_)
        · rw [if_neg c32] at hRES
          replace hok := hok.2 c32
          refine x_iload (pc' := 116) C dX7_asks_114 rfl rfl ?_
          refine x_istore (pc' := 118) (L' := [some (.ref h), some (.int a1), some (.int (f_X7_rootOf S a1)), some (.int (1 + z5.1)), some (.int ((z10.2 10) ((z10.1 11 - 1)).toNatClampNeg)), some (.int ((z10.2 10) ((z10.1 11 - 1)).toNatClampNeg))]) C dX7_asks_116 rfl (Nat.le_of_ble_eq_true rfl) rfl ?_
          refine x_aload_n (pc' := 119) C dX7_asks_118 rfl rfl rfl ?_
          refine x_get (pc' := 122) (v := .ref (ad 0)) C 0 0 inBX7 rfl rfl (by decide) fl_X7_7 rfl rfl dX7_asks_119 rfl ?_
          refine x_iload (pc' := 124) C dX7_asks_122 rfl rfl ?_
          refine x_iconst (v := 2) (pc' := 125) C dX7_asks_124 rfl (by decide) ?_
          refine x_RS (st := [.ref (ad 0)]) (st2 := [.int (f_X7_of ((z10.2 10) ((z10.1 11 - 1)).toNatClampNeg) 2), .ref (ad 0)]) (pc' := 128) C (c_X7_of (kl k) (kg k) ((z10.2 10) ((z10.1 11 - 1)).toNatClampNeg) 2) cw_X7_32 ok_X7_of (by decide) [] rfl rfl rfl (Nat.le_of_ble_eq_true rfl) (Nat.zero_le _) (Nat.zero_le _) rfl dX7_asks_125 rfl rfl ?_
          refine x_iconst (v := 0) (pc' := 129) C dX7_asks_128 rfl (by decide) ?_
          obtain ⟨hn33, hok⟩ := hok
          obtain ⟨z34, ez34⟩ : ∃ z, z = (setF z10 0 (upd (z10.2 0) ((f_X7_of ((z10.2 10) ((z10.1 11 - 1)).toNatClampNeg) 2)).toNatClampNeg 0)) := ⟨_, rfl⟩
          replace hRES := bd hRES z34 ez34
          replace hok := bdP hok z34 ez34
          refine x_iast (pc' := 130) (f := z10.2 0) (w' := wMo (kg k) h ad z34) C B 1 rfl hn33 dX7_asks_129 rfl (by rw [ez34]; rfl) ?_
          refine x_aload_n (pc' := 131) C dX7_asks_130 rfl rfl rfl ?_
          refine x_get (pc' := 134) (v := .ref (ad 0)) C 0 0 inBX7 rfl rfl (by decide) fl_X7_7 rfl rfl dX7_asks_131 rfl ?_
          refine x_iload_n (pc' := 135) C dX7_asks_134 rfl rfl rfl ?_
          refine x_iconst (v := 3) (pc' := 136) C dX7_asks_135 rfl (by decide) ?_
          refine x_RS (st := [.ref (ad 0)]) (st2 := [.int (f_X7_of a1 3), .ref (ad 0)]) (pc' := 139) C (c_X7_of (kl k) (kg k) a1 3) cw_X7_32 ok_X7_of (by decide) [] rfl rfl rfl (Nat.le_of_ble_eq_true rfl) (Nat.zero_le _) (Nat.zero_le _) rfl dX7_asks_136 rfl rfl ?_
          refine x_iconst (v := 1) (pc' := 140) C dX7_asks_139 rfl (by decide) ?_
          obtain ⟨hn35, hok⟩ := hok
          obtain ⟨z36, ez36⟩ : ∃ z, z = (setF z34 0 (upd (z34.2 0) ((f_X7_of a1 3)).toNatClampNeg 1)) := ⟨_, rfl⟩
          replace hRES := bd hRES z36 ez36
          replace hok := bdP hok z36 ez36
          refine x_iast (pc' := 141) (f := z34.2 0) (w' := wMo (kg k) h ad z36) C B 1 rfl hn35 dX7_asks_140 rfl (by rw [ez36]; rfl) ?_
          refine x_aload_n (pc' := 142) C dX7_asks_141 rfl rfl rfl ?_
          refine x_get (pc' := 145) (v := .ref (ad 0)) C 0 0 inBX7 rfl rfl (by decide) fl_X7_7 rfl rfl dX7_asks_142 rfl ?_
          refine x_sipush (v := 317) (pc' := 148) C dX7_asks_145 rfl (by decide) ?_
          refine x_dup2 (pc' := 149) C dX7_asks_148 rfl rfl rfl ?_
          refine x_ialdN (pc' := 150) (f := z36.2 0) (j := 317) (v := ((z36.2 0) 317)) C 1 rfl (by decide) (by decide) rfl dX7_asks_149 rfl ?_
          refine x_iconst (v := 1) (pc' := 151) C dX7_asks_150 rfl (by decide) ?_
          refine x_iadd (pc' := 152) (v := (((z36.2 0) 317) + 1)) C dX7_asks_151 rfl rfl ?_
          obtain ⟨z37, ez37⟩ : ∃ z, z = (setF z36 0 (upd (z36.2 0) 317 (((z36.2 0) 317) + 1))) := ⟨_, rfl⟩
          replace hRES := bd hRES z37 ez37
          replace hok := bdP hok z37 ez37
          refine x_iastN (pc' := 153) (f := z36.2 0) (j := 317) (w' := wMo (kg k) h ad z37) C B 1 rfl (by decide) (by decide) dX7_asks_152 rfl (by rw [ez37]; rfl) ?_
          refine x_goto (tgt := 225) C dX7_asks_153 (by decide) ?_
          refine x_iload_n (pc' := 226) C dX7_asks_225 rfl rfl rfl ?_
          exact x_iret C (Nat.zero_le _) (Nat.zero_le _) dX7_asks_226 ⟨by rw [hRES], by rw [hRES]⟩
        · rw [if_pos c32] at hRES
          replace hok := hok.1 c32
          refine x_iload_n (pc' := 111) C dX7_asks_110 rfl rfl rfl ?_
          refine x_goto (tgt := 116) C dX7_asks_111 (by decide) ?_
          refine x_istore (pc' := 118) (L' := [some (.ref h), some (.int a1), some (.int (f_X7_rootOf S a1)), some (.int (1 + z5.1)), some (.int ((z10.2 10) ((z10.1 11 - 1)).toNatClampNeg)), some (.int a1)]) C dX7_asks_116 rfl (Nat.le_of_ble_eq_true rfl) rfl ?_
          refine x_aload_n (pc' := 119) C dX7_asks_118 rfl rfl rfl ?_
          refine x_get (pc' := 122) (v := .ref (ad 0)) C 0 0 inBX7 rfl rfl (by decide) fl_X7_7 rfl rfl dX7_asks_119 rfl ?_
          refine x_iload (pc' := 124) C dX7_asks_122 rfl rfl ?_
          refine x_iconst (v := 2) (pc' := 125) C dX7_asks_124 rfl (by decide) ?_
          refine x_RS (st := [.ref (ad 0)]) (st2 := [.int (f_X7_of a1 2), .ref (ad 0)]) (pc' := 128) C (c_X7_of (kl k) (kg k) a1 2) cw_X7_32 ok_X7_of (by decide) [] rfl rfl rfl (Nat.le_of_ble_eq_true rfl) (Nat.zero_le _) (Nat.zero_le _) rfl dX7_asks_125 rfl rfl ?_
          refine x_iconst (v := 0) (pc' := 129) C dX7_asks_128 rfl (by decide) ?_
          obtain ⟨hn38, hok⟩ := hok
          obtain ⟨z39, ez39⟩ : ∃ z, z = (setF z10 0 (upd (z10.2 0) ((f_X7_of a1 2)).toNatClampNeg 0)) := ⟨_, rfl⟩
          replace hRES := bd hRES z39 ez39
          replace hok := bdP hok z39 ez39
          refine x_iast (pc' := 130) (f := z10.2 0) (w' := wMo (kg k) h ad z39) C B 1 rfl hn38 dX7_asks_129 rfl (by rw [ez39]; rfl) ?_
          refine x_aload_n (pc' := 131) C dX7_asks_130 rfl rfl rfl ?_
          refine x_get (pc' := 134) (v := .ref (ad 0)) C 0 0 inBX7 rfl rfl (by decide) fl_X7_7 rfl rfl dX7_asks_131 rfl ?_
          refine x_iload_n (pc' := 135) C dX7_asks_134 rfl rfl rfl ?_
          refine x_iconst (v := 3) (pc' := 136) C dX7_asks_135 rfl (by decide) ?_
          refine x_RS (st := [.ref (ad 0)]) (st2 := [.int (f_X7_of a1 3), .ref (ad 0)]) (pc' := 139) C (c_X7_of (kl k) (kg k) a1 3) cw_X7_32 ok_X7_of (by decide) [] rfl rfl rfl (Nat.le_of_ble_eq_true rfl) (Nat.zero_le _) (Nat.zero_le _) rfl dX7_asks_136 rfl rfl ?_
          refine x_iconst (v := 1) (pc' := 140) C dX7_asks_139 rfl (by decide) ?_
          obtain ⟨hn40, hok⟩ := hok
          obtain ⟨z41, ez41⟩ : ∃ z, z = (setF z39 0 (upd (z39.2 0) ((f_X7_of a1 3)).toNatClampNeg 1)) := ⟨_, rfl⟩
          replace hRES := bd hRES z41 ez41
          replace hok := bdP hok z41 ez41
          refine x_iast (pc' := 141) (f := z39.2 0) (w' := wMo (kg k) h ad z41) C B 1 rfl hn40 dX7_asks_140 rfl (by rw [ez41]; rfl) ?_
          refine x_aload_n (pc' := 142) C dX7_asks_141 rfl rfl rfl ?_
          refine x_get (pc' := 145) (v := .ref (ad 0)) C 0 0 inBX7 rfl rfl (by decide) fl_X7_7 rfl rfl dX7_asks_142 rfl ?_
          refine x_sipush (v := 317) (pc' := 148) C dX7_asks_145 rfl (by decide) ?_
          refine x_dup2 (pc' := 149) C dX7_asks_148 rfl rfl rfl ?_
          refine x_ialdN (pc' := 150) (f := z41.2 0) (j := 317) (v := ((z41.2 0) 317)) C 1 rfl (by decide) (by decide) rfl dX7_asks_149 rfl ?_
          refine x_iconst (v := 1) (pc' := 151) C dX7_asks_150 rfl (by decide) ?_
          refine x_iadd (pc' := 152) (v := (((z41.2 0) 317) + 1)) C dX7_asks_151 rfl rfl ?_
          obtain ⟨z42, ez42⟩ : ∃ z, z = (setF z41 0 (upd (z41.2 0) 317 (((z41.2 0) 317) + 1))) := ⟨_, rfl⟩
          replace hRES := bd hRES z42 ez42
          replace hok := bdP hok z42 ez42
          refine x_iastN (pc' := 153) (f := z41.2 0) (j := 317) (w' := wMo (kg k) h ad z42) C B 1 rfl (by decide) (by decide) dX7_asks_152 rfl (by rw [ez42]; rfl) ?_
          refine x_goto (tgt := 225) C dX7_asks_153 (by decide) ?_
          refine x_iload_n (pc' := 226) C dX7_asks_225 rfl rfl rfl ?_
          exact x_iret C (Nat.zero_le _) (Nat.zero_le _) dX7_asks_226 ⟨by rw [hRES], by rw [hRES]⟩
  · rw [if_neg c2] at hRES
    replace hok := hok.2 c2
    refine x_iconst (v := (-1)) (pc' := 9) C dX7_asks_8 rfl (by decide) ?_
    exact x_iret C (Nat.zero_le _) (Nat.zero_le _) dX7_asks_9 ⟨by rw [hRES], by rw [hRES]⟩

def f_X7_roots (S : CS) (a1 : Int32) : Int32 × CS := (if (f_X7_isVersion S a1) = true then (if (f_X7_rootOf S a1) = a1 then ((-5), S) else (bind1 (f_X7_becomesRoot S a1) (fun z6 => (bind1 (f_X7_layWay z6 a1 (f_X7_rootOf S a1)) (fun z8 => (z8.1 11, z8)))))) else ((-1), S))
def o_X7_roots (S : CS) (a1 : Int32) : Prop := ((o_X7_isVersion S a1) ∧ (((f_X7_isVersion S a1) = true → ((o_X7_rootOf S a1) ∧ (((f_X7_rootOf S a1) = a1 → True) ∧ (¬ (f_X7_rootOf S a1) = a1 → ((o_X7_becomesRoot S a1) ∧ (bind1 (f_X7_becomesRoot S a1) (fun z6 => ((o_X7_layWay z6 a1 (f_X7_rootOf S a1)) ∧ (bind1 (f_X7_layWay z6 a1 (f_X7_rootOf S a1)) (fun z8 => True)))))))))) ∧ (¬ (f_X7_isVersion S a1) = true → True)))
set_option maxRecDepth 100000 in
set_option maxHeartbeats 8000000 in
theorem c_X7_roots (l : Launch) (g : GT) (h : Nat) (ad : Nat → Nat) (S : CS) (a1 : Int32) (hok : o_X7_roots S a1) : CW l yX7_roots (.code yX7_roots cX7_roots 3 (some .int)) 5 g [.ref h, .int a1] (wMo g h ad S) (some (.int (f_X7_roots S a1).1)) (wMo g h ad (f_X7_roots S a1).2) := by
  obtain ⟨RES, hRES⟩ : ∃ z, z = (f_X7_roots S a1) := ⟨_, rfl⟩
  rw [← hRES]
  unfold f_X7_roots at hRES
  unfold o_X7_roots at hok
  refine CWx.of (nL := 3) (ret := (some .int)) (own := RX7) (cc := cX7_roots) rfl (by decide) rfl (List.forall_mem_cons.mpr ⟨rfl, (List.forall_mem_cons.mpr ⟨rfl, (fun _ h => absurd h List.not_mem_nil)⟩)⟩) (Nat.le_of_ble_eq_true rfl) ?_
  intro k C B hin hkl hkg
  subst hkl; subst hkg
  refine x_loc2 (L' := [some (.ref h), some (.int a1), none]) rfl ?_
  refine x_aload_n (pc' := 1) C dX7_roots_0 rfl rfl rfl ?_
  refine x_iload_n (pc' := 2) C dX7_roots_1 rfl rfl rfl ?_
  obtain ⟨hn1, hok⟩ := hok
  refine x_RV (st := []) (st2 := [.int (bI (f_X7_isVersion S a1))]) (pc' := 5) C (c_X7_isVersion (kl k) (kg k) h ad S a1 hn1) cw_X7_72 ok_X7_isVersion rfl (by decide) 0 rfl rfl [0, 1, 2, 3, 4, 5, 6] rfl rfl rfl (Nat.le_of_ble_eq_true rfl) (Nat.zero_le _) (Nat.zero_le _) rfl dX7_roots_2 rfl rfl ?_
  refine x_ifB_ne (tgt := 10) (pc' := 8) C dX7_roots_5 (by decide) rfl (fun c2 => ?_) (fun c2 => ?_)
  · rw [if_pos c2] at hRES
    replace hok := hok.1 c2
    refine x_aload_n (pc' := 11) C dX7_roots_10 rfl rfl rfl ?_
    refine x_iload_n (pc' := 12) C dX7_roots_11 rfl rfl rfl ?_
    obtain ⟨hn3, hok⟩ := hok
    refine x_RV (st := []) (st2 := [.int (f_X7_rootOf S a1)]) (pc' := 15) C (c_X7_rootOf (kl k) (kg k) h ad S a1 hn3) cw_X7_84 ok_X7_rootOf rfl (by decide) 0 rfl rfl [0, 1, 2, 3, 4, 5, 6] rfl rfl rfl (Nat.le_of_ble_eq_true rfl) (Nat.zero_le _) (Nat.zero_le _) rfl dX7_roots_12 rfl rfl ?_
    refine x_istore_n (pc' := 16) (L' := [some (.ref h), some (.int a1), some (.int (f_X7_rootOf S a1))]) C dX7_roots_15 rfl rfl (Nat.le_of_ble_eq_true rfl) rfl ?_
    refine x_iload_n (pc' := 17) C dX7_roots_16 rfl rfl rfl ?_
    refine x_iload_n (pc' := 18) C dX7_roots_17 rfl rfl rfl ?_
    refine x_icmp_ne (tgt := 24) (pc' := 21) C dX7_roots_18 (by decide) rfl (fun c4 => ?_) (fun c4 => ?_)
    · rw [if_neg c4] at hRES
      replace hok := hok.2 c4
      refine x_aload_n (pc' := 25) C dX7_roots_24 rfl rfl rfl ?_
      refine x_iload_n (pc' := 26) C dX7_roots_25 rfl rfl rfl ?_
      obtain ⟨hn5, hok⟩ := hok
      obtain ⟨z6, ez6⟩ : ∃ z, z = (f_X7_becomesRoot S a1) := ⟨_, rfl⟩
      replace hRES := bd hRES z6 ez6
      replace hok := bdP hok z6 ez6
      have hc := c_X7_becomesRoot (kl k) (kg k) h ad S a1 hn5
      rw [← ez6] at hc
      refine x_WV (st := []) (st2 := []) (pc' := 29) C B hc cw_X7_90 ok_X7_becomesRoot rfl (by decide) 0 rfl rfl [0, 1, 2, 3, 4, 5, 6] [] [0, 1, 2, 3, 4, 5, 6] (wMo (kg k) h ad z6) rfl rfl rfl rfl (by decide) rfl rfl rfl (Nat.le_of_ble_eq_true rfl) (Nat.zero_le _) (Nat.zero_le _) rfl dX7_roots_26 rfl rfl ?_
      refine x_aload_n (pc' := 30) C dX7_roots_29 rfl rfl rfl ?_
      refine x_iload_n (pc' := 31) C dX7_roots_30 rfl rfl rfl ?_
      refine x_iload_n (pc' := 32) C dX7_roots_31 rfl rfl rfl ?_
      obtain ⟨hn7, hok⟩ := hok
      obtain ⟨z8, ez8⟩ : ∃ z, z = (f_X7_layWay z6 a1 (f_X7_rootOf S a1)) := ⟨_, rfl⟩
      replace hRES := bd hRES z8 ez8
      replace hok := bdP hok z8 ez8
      have hc := c_X7_layWay (kl k) (kg k) h ad z6 a1 (f_X7_rootOf S a1) hn7
      rw [← ez8] at hc
      refine x_WV (st := []) (st2 := []) (pc' := 35) C B hc cw_X7_64 ok_X7_layWay rfl (by decide) 0 rfl rfl [0, 1, 2, 3, 4, 5, 6] [] [0, 1, 2, 3, 4, 5, 6] (wMo (kg k) h ad z8) rfl rfl rfl rfl (by decide) rfl rfl rfl (Nat.le_of_ble_eq_true rfl) (Nat.zero_le _) (Nat.zero_le _) rfl dX7_roots_32 rfl rfl ?_
      refine x_aload_n (pc' := 36) C dX7_roots_35 rfl rfl rfl ?_
      refine x_get (pc' := 39) (v := .int (z8.1 11)) C 0 11 inBX7 rfl rfl (by decide) fl_X7_51 rfl rfl dX7_roots_36 rfl ?_
      exact x_iret C (Nat.zero_le _) (Nat.zero_le _) dX7_roots_39 ⟨by rw [hRES], by rw [hRES]⟩
    · rw [if_pos c4] at hRES
      replace hok := hok.1 c4
      refine x_bipush (v := (-5)) (pc' := 23) C dX7_roots_21 rfl (by decide) ?_
      exact x_iret C (Nat.zero_le _) (Nat.zero_le _) dX7_roots_23 ⟨by rw [hRES], by rw [hRES]⟩
  · rw [if_neg c2] at hRES
    replace hok := hok.2 c2
    refine x_iconst (v := (-1)) (pc' := 9) C dX7_roots_8 rfl (by decide) ?_
    exact x_iret C (Nat.zero_le _) (Nat.zero_le _) dX7_roots_9 ⟨by rw [hRES], by rw [hRES]⟩

def f_X7_cuts (S : CS) (a1 : Int32) : Int32 × CS := (if (f_X7_isVersion S a1) = true then (if a1 = 0 then ((-4), S) else (if (f_X7_hangs S a1) = true then (bind1 (setF S 0 (upd (S.2 0) ((f_X7_of a1 2)).toNatClampNeg 0)) (fun z7 => (if (f_X7_rootOf z7 a1) = (-5) then (bind1 (setF z7 0 (upd (z7.2 0) ((f_X7_of a1 3)).toNatClampNeg 1)) (fun z15 => ((f_X7_versions z15 1), z15))) else (bind1 (setF z7 0 (upd (z7.2 0) ((f_X7_of ((z7.2 0) ((f_X7_of a1 1)).toNatClampNeg) 3)).toNatClampNeg 1)) (fun z12 => ((f_X7_versions z12 1), z12)))))) else ((-5), S))) else ((-1), S))
def o_X7_cuts (S : CS) (a1 : Int32) : Prop := ((o_X7_isVersion S a1) ∧ (((f_X7_isVersion S a1) = true → ((a1 = 0 → True) ∧ (¬ (a1 = 0) → ((o_X7_hangs S a1) ∧ (((f_X7_hangs S a1) = true → (vp_in (f_X7_of a1 2) 318 ∧ (bind1 (setF S 0 (upd (S.2 0) ((f_X7_of a1 2)).toNatClampNeg 0)) (fun z7 => (vp_in (f_X7_of a1 1) 318 ∧ ((o_X7_rootOf z7 a1) ∧ (((f_X7_rootOf z7 a1) = (-5) → (vp_in (f_X7_of a1 3) 318 ∧ (bind1 (setF z7 0 (upd (z7.2 0) ((f_X7_of a1 3)).toNatClampNeg 1)) (fun z15 => ((o_X7_versions z15 1) ∧ True))))) ∧ (¬ (f_X7_rootOf z7 a1) = (-5) → (vp_in (f_X7_of ((z7.2 0) ((f_X7_of a1 1)).toNatClampNeg) 3) 318 ∧ (bind1 (setF z7 0 (upd (z7.2 0) ((f_X7_of ((z7.2 0) ((f_X7_of a1 1)).toNatClampNeg) 3)).toNatClampNeg 1)) (fun z12 => ((o_X7_versions z12 1) ∧ True)))))))))))) ∧ (¬ (f_X7_hangs S a1) = true → True)))))) ∧ (¬ (f_X7_isVersion S a1) = true → True)))
set_option maxRecDepth 100000 in
set_option maxHeartbeats 8000000 in
theorem c_X7_cuts (l : Launch) (g : GT) (h : Nat) (ad : Nat → Nat) (S : CS) (a1 : Int32) (hok : o_X7_cuts S a1) : CW l yX7_cuts (.code yX7_cuts cX7_cuts 3 (some .int)) 4 g [.ref h, .int a1] (wMo g h ad S) (some (.int (f_X7_cuts S a1).1)) (wMo g h ad (f_X7_cuts S a1).2) := by
  obtain ⟨RES, hRES⟩ : ∃ z, z = (f_X7_cuts S a1) := ⟨_, rfl⟩
  rw [← hRES]
  unfold f_X7_cuts at hRES
  unfold o_X7_cuts at hok
  refine CWx.of (nL := 3) (ret := (some .int)) (own := RX7) (cc := cX7_cuts) rfl (by decide) rfl (List.forall_mem_cons.mpr ⟨rfl, (List.forall_mem_cons.mpr ⟨rfl, (fun _ h => absurd h List.not_mem_nil)⟩)⟩) (Nat.le_of_ble_eq_true rfl) ?_
  intro k C B hin hkl hkg
  subst hkl; subst hkg
  refine x_loc2 (L' := [some (.ref h), some (.int a1), none]) rfl ?_
  refine x_aload_n (pc' := 1) C dX7_cuts_0 rfl rfl rfl ?_
  refine x_iload_n (pc' := 2) C dX7_cuts_1 rfl rfl rfl ?_
  obtain ⟨hn1, hok⟩ := hok
  refine x_RV (st := []) (st2 := [.int (bI (f_X7_isVersion S a1))]) (pc' := 5) C (c_X7_isVersion (kl k) (kg k) h ad S a1 hn1) cw_X7_72 ok_X7_isVersion rfl (by decide) 0 rfl rfl [0, 1, 2, 3, 4, 5, 6] rfl rfl rfl (Nat.le_of_ble_eq_true rfl) (Nat.zero_le _) (Nat.zero_le _) rfl dX7_cuts_2 rfl rfl ?_
  refine x_ifB_ne (tgt := 10) (pc' := 8) C dX7_cuts_5 (by decide) rfl (fun c2 => ?_) (fun c2 => ?_)
  · rw [if_pos c2] at hRES
    replace hok := hok.1 c2
    refine x_iload_n (pc' := 11) C dX7_cuts_10 rfl rfl rfl ?_
    refine x_if_ne (tgt := 17) (pc' := 14) C dX7_cuts_11 (by decide) rfl (fun c3 => ?_) (fun c3 => ?_)
    · rw [if_neg c3] at hRES
      replace hok := hok.2 c3
      refine x_aload_n (pc' := 18) C dX7_cuts_17 rfl rfl rfl ?_
      refine x_iload_n (pc' := 19) C dX7_cuts_18 rfl rfl rfl ?_
      obtain ⟨hn4, hok⟩ := hok
      refine x_RV (st := []) (st2 := [.int (bI (f_X7_hangs S a1))]) (pc' := 22) C (c_X7_hangs (kl k) (kg k) h ad S a1 hn4) cw_X7_43 ok_X7_hangs rfl (by decide) 0 rfl rfl [0, 1, 2, 3, 4, 5, 6] rfl rfl rfl (Nat.le_of_ble_eq_true rfl) (Nat.zero_le _) (Nat.zero_le _) rfl dX7_cuts_19 rfl rfl ?_
      refine x_ifB_ne (tgt := 28) (pc' := 25) C dX7_cuts_22 (by decide) rfl (fun c5 => ?_) (fun c5 => ?_)
      · rw [if_pos c5] at hRES
        replace hok := hok.1 c5
        refine x_aload_n (pc' := 29) C dX7_cuts_28 rfl rfl rfl ?_
        refine x_get (pc' := 32) (v := .ref (ad 0)) C 0 0 inBX7 rfl rfl (by decide) fl_X7_7 rfl rfl dX7_cuts_29 rfl ?_
        refine x_iload_n (pc' := 33) C dX7_cuts_32 rfl rfl rfl ?_
        refine x_iconst (v := 2) (pc' := 34) C dX7_cuts_33 rfl (by decide) ?_
        refine x_RS (st := [.ref (ad 0)]) (st2 := [.int (f_X7_of a1 2), .ref (ad 0)]) (pc' := 37) C (c_X7_of (kl k) (kg k) a1 2) cw_X7_32 ok_X7_of (by decide) [] rfl rfl rfl (Nat.le_of_ble_eq_true rfl) (Nat.zero_le _) (Nat.zero_le _) rfl dX7_cuts_34 rfl rfl ?_
        refine x_iconst (v := 0) (pc' := 38) C dX7_cuts_37 rfl (by decide) ?_
        obtain ⟨hn6, hok⟩ := hok
        obtain ⟨z7, ez7⟩ : ∃ z, z = (setF S 0 (upd (S.2 0) ((f_X7_of a1 2)).toNatClampNeg 0)) := ⟨_, rfl⟩
        replace hRES := bd hRES z7 ez7
        replace hok := bdP hok z7 ez7
        refine x_iast (pc' := 39) (f := S.2 0) (w' := wMo (kg k) h ad z7) C B 1 rfl hn6 dX7_cuts_38 rfl (by rw [ez7]; rfl) ?_
        refine x_aload_n (pc' := 40) C dX7_cuts_39 rfl rfl rfl ?_
        refine x_get (pc' := 43) (v := .ref (ad 0)) C 0 0 inBX7 rfl rfl (by decide) fl_X7_7 rfl rfl dX7_cuts_40 rfl ?_
        refine x_iload_n (pc' := 44) C dX7_cuts_43 rfl rfl rfl ?_
        refine x_iconst (v := 1) (pc' := 45) C dX7_cuts_44 rfl (by decide) ?_
        refine x_RS (st := [.ref (ad 0)]) (st2 := [.int (f_X7_of a1 1), .ref (ad 0)]) (pc' := 48) C (c_X7_of (kl k) (kg k) a1 1) cw_X7_32 ok_X7_of (by decide) [] rfl rfl rfl (Nat.le_of_ble_eq_true rfl) (Nat.zero_le _) (Nat.zero_le _) rfl dX7_cuts_45 rfl rfl ?_
        obtain ⟨hn8, hok⟩ := hok
        refine x_iald (pc' := 49) (f := z7.2 0) (v := ((z7.2 0) ((f_X7_of a1 1)).toNatClampNeg)) C 1 rfl hn8 rfl dX7_cuts_48 rfl ?_
        refine x_istore_n (pc' := 50) (L' := [some (.ref h), some (.int a1), some (.int ((z7.2 0) ((f_X7_of a1 1)).toNatClampNeg))]) C dX7_cuts_49 rfl rfl (Nat.le_of_ble_eq_true rfl) rfl ?_
        refine x_aload_n (pc' := 51) C dX7_cuts_50 rfl rfl rfl ?_
        refine x_get (pc' := 54) (v := .ref (ad 0)) C 0 0 inBX7 rfl rfl (by decide) fl_X7_7 rfl rfl dX7_cuts_51 rfl ?_
        refine x_aload_n (pc' := 55) C dX7_cuts_54 rfl rfl rfl ?_
        refine x_iload_n (pc' := 56) C dX7_cuts_55 rfl rfl rfl ?_
        obtain ⟨hn9, hok⟩ := hok
        refine x_RV (st := [.ref (ad 0)]) (st2 := [.int (f_X7_rootOf z7 a1), .ref (ad 0)]) (pc' := 59) C (c_X7_rootOf (kl k) (kg k) h ad z7 a1 hn9) cw_X7_84 ok_X7_rootOf rfl (by decide) 0 rfl rfl [0, 1, 2, 3, 4, 5, 6] rfl rfl rfl (Nat.le_of_ble_eq_true rfl) (Nat.zero_le _) (Nat.zero_le _) rfl dX7_cuts_56 rfl rfl ?_
        refine x_bipush (v := (-5)) (pc' := 61) C dX7_cuts_59 rfl (by decide) ?_
        refine x_icmp_ne (tgt := 68) (pc' := 64) C dX7_cuts_61 (by decide) rfl (fun c10 => ?_) (fun c10 => ?_)
        · rw [if_neg c10] at hRES
          replace hok := hok.2 c10
          refine x_iload_n (pc' := 69) C dX7_cuts_68 rfl rfl rfl ?_
          refine x_iconst (v := 3) (pc' := 70) C dX7_cuts_69 rfl (by decide) ?_
          refine x_RS (st := [.ref (ad 0)]) (st2 := [.int (f_X7_of ((z7.2 0) ((f_X7_of a1 1)).toNatClampNeg) 3), .ref (ad 0)]) (pc' := 73) C (c_X7_of (kl k) (kg k) ((z7.2 0) ((f_X7_of a1 1)).toNatClampNeg) 3) cw_X7_32 ok_X7_of (by decide) [] rfl rfl rfl (Nat.le_of_ble_eq_true rfl) (Nat.zero_le _) (Nat.zero_le _) rfl dX7_cuts_70 rfl rfl ?_
          refine x_iconst (v := 1) (pc' := 74) C dX7_cuts_73 rfl (by decide) ?_
          obtain ⟨hn11, hok⟩ := hok
          obtain ⟨z12, ez12⟩ : ∃ z, z = (setF z7 0 (upd (z7.2 0) ((f_X7_of ((z7.2 0) ((f_X7_of a1 1)).toNatClampNeg) 3)).toNatClampNeg 1)) := ⟨_, rfl⟩
          replace hRES := bd hRES z12 ez12
          replace hok := bdP hok z12 ez12
          refine x_iast (pc' := 75) (f := z7.2 0) (w' := wMo (kg k) h ad z12) C B 1 rfl hn11 dX7_cuts_74 rfl (by rw [ez12]; rfl) ?_
          refine x_aload_n (pc' := 76) C dX7_cuts_75 rfl rfl rfl ?_
          refine x_iconst (v := 1) (pc' := 77) C dX7_cuts_76 rfl (by decide) ?_
          obtain ⟨hn13, hok⟩ := hok
          refine x_RV (st := []) (st2 := [.int (f_X7_versions z12 1)]) (pc' := 80) C (c_X7_versions (kl k) (kg k) h ad z12 1 hn13) cw_X7_81 ok_X7_versions rfl (by decide) 0 rfl rfl [0, 1, 2, 3, 4, 5, 6] rfl rfl rfl (Nat.le_of_ble_eq_true rfl) (Nat.zero_le _) (Nat.zero_le _) rfl dX7_cuts_77 rfl rfl ?_
          exact x_iret C (Nat.zero_le _) (Nat.zero_le _) dX7_cuts_80 ⟨by rw [hRES], by rw [hRES]⟩
        · rw [if_pos c10] at hRES
          replace hok := hok.1 c10
          refine x_iload_n (pc' := 65) C dX7_cuts_64 rfl rfl rfl ?_
          refine x_goto (tgt := 69) C dX7_cuts_65 (by decide) ?_
          refine x_iconst (v := 3) (pc' := 70) C dX7_cuts_69 rfl (by decide) ?_
          refine x_RS (st := [.ref (ad 0)]) (st2 := [.int (f_X7_of a1 3), .ref (ad 0)]) (pc' := 73) C (c_X7_of (kl k) (kg k) a1 3) cw_X7_32 ok_X7_of (by decide) [] rfl rfl rfl (Nat.le_of_ble_eq_true rfl) (Nat.zero_le _) (Nat.zero_le _) rfl dX7_cuts_70 rfl rfl ?_
          refine x_iconst (v := 1) (pc' := 74) C dX7_cuts_73 rfl (by decide) ?_
          obtain ⟨hn14, hok⟩ := hok
          obtain ⟨z15, ez15⟩ : ∃ z, z = (setF z7 0 (upd (z7.2 0) ((f_X7_of a1 3)).toNatClampNeg 1)) := ⟨_, rfl⟩
          replace hRES := bd hRES z15 ez15
          replace hok := bdP hok z15 ez15
          refine x_iast (pc' := 75) (f := z7.2 0) (w' := wMo (kg k) h ad z15) C B 1 rfl hn14 dX7_cuts_74 rfl (by rw [ez15]; rfl) ?_
          refine x_aload_n (pc' := 76) C dX7_cuts_75 rfl rfl rfl ?_
          refine x_iconst (v := 1) (pc' := 77) C dX7_cuts_76 rfl (by decide) ?_
          obtain ⟨hn16, hok⟩ := hok
          refine x_RV (st := []) (st2 := [.int (f_X7_versions z15 1)]) (pc' := 80) C (c_X7_versions (kl k) (kg k) h ad z15 1 hn16) cw_X7_81 ok_X7_versions rfl (by decide) 0 rfl rfl [0, 1, 2, 3, 4, 5, 6] rfl rfl rfl (Nat.le_of_ble_eq_true rfl) (Nat.zero_le _) (Nat.zero_le _) rfl dX7_cuts_77 rfl rfl ?_
          exact x_iret C (Nat.zero_le _) (Nat.zero_le _) dX7_cuts_80 ⟨by rw [hRES], by rw [hRES]⟩
      · rw [if_neg c5] at hRES
        replace hok := hok.2 c5
        refine x_bipush (v := (-5)) (pc' := 27) C dX7_cuts_25 rfl (by decide) ?_
        exact x_iret C (Nat.zero_le _) (Nat.zero_le _) dX7_cuts_27 ⟨by rw [hRES], by rw [hRES]⟩
    · rw [if_pos c3] at hRES
      replace hok := hok.1 c3
      refine x_bipush (v := (-4)) (pc' := 16) C dX7_cuts_14 rfl (by decide) ?_
      exact x_iret C (Nat.zero_le _) (Nat.zero_le _) dX7_cuts_16 ⟨by rw [hRES], by rw [hRES]⟩
  · rw [if_neg c2] at hRES
    replace hok := hok.2 c2
    refine x_iconst (v := (-1)) (pc' := 9) C dX7_cuts_8 rfl (by decide) ?_
    exact x_iret C (Nat.zero_le _) (Nat.zero_le _) dX7_cuts_9 ⟨by rw [hRES], by rw [hRES]⟩

def f_X7_joins (S : CS) (a1 : Int32) : Int32 × CS := (if (f_X7_isVersion S a1) = true then (if a1 = 0 then ((-4), S) else (if (f_X7_hangs S a1) = true then ((-5), S) else (bind1 (setF S 0 (upd (S.2 0) ((f_X7_of (f_X7_rootOf S a1) 3)).toNatClampNeg 0)) (fun z8 => (bind1 (setF z8 0 (upd (z8.2 0) ((f_X7_of a1 2)).toNatClampNeg 1)) (fun z10 => ((f_X7_versions z10 1), z10))))))) else ((-1), S))
def o_X7_joins (S : CS) (a1 : Int32) : Prop := ((o_X7_isVersion S a1) ∧ (((f_X7_isVersion S a1) = true → ((a1 = 0 → True) ∧ (¬ (a1 = 0) → ((o_X7_hangs S a1) ∧ (((f_X7_hangs S a1) = true → True) ∧ (¬ (f_X7_hangs S a1) = true → ((o_X7_rootOf S a1) ∧ (vp_in (f_X7_of (f_X7_rootOf S a1) 3) 318 ∧ (bind1 (setF S 0 (upd (S.2 0) ((f_X7_of (f_X7_rootOf S a1) 3)).toNatClampNeg 0)) (fun z8 => (vp_in (f_X7_of a1 2) 318 ∧ (bind1 (setF z8 0 (upd (z8.2 0) ((f_X7_of a1 2)).toNatClampNeg 1)) (fun z10 => ((o_X7_versions z10 1) ∧ True)))))))))))))) ∧ (¬ (f_X7_isVersion S a1) = true → True)))
set_option maxRecDepth 100000 in
set_option maxHeartbeats 8000000 in
theorem c_X7_joins (l : Launch) (g : GT) (h : Nat) (ad : Nat → Nat) (S : CS) (a1 : Int32) (hok : o_X7_joins S a1) : CW l yX7_joins (.code yX7_joins cX7_joins 2 (some .int)) 4 g [.ref h, .int a1] (wMo g h ad S) (some (.int (f_X7_joins S a1).1)) (wMo g h ad (f_X7_joins S a1).2) := by
  obtain ⟨RES, hRES⟩ : ∃ z, z = (f_X7_joins S a1) := ⟨_, rfl⟩
  rw [← hRES]
  unfold f_X7_joins at hRES
  unfold o_X7_joins at hok
  refine CWx.of (nL := 2) (ret := (some .int)) (own := RX7) (cc := cX7_joins) rfl (by decide) rfl (List.forall_mem_cons.mpr ⟨rfl, (List.forall_mem_cons.mpr ⟨rfl, (fun _ h => absurd h List.not_mem_nil)⟩)⟩) (Nat.le_of_ble_eq_true rfl) ?_
  intro k C B hin hkl hkg
  subst hkl; subst hkg
  refine x_loc2 (L' := [some (.ref h), some (.int a1)]) rfl ?_
  refine x_aload_n (pc' := 1) C dX7_joins_0 rfl rfl rfl ?_
  refine x_iload_n (pc' := 2) C dX7_joins_1 rfl rfl rfl ?_
  obtain ⟨hn1, hok⟩ := hok
  refine x_RV (st := []) (st2 := [.int (bI (f_X7_isVersion S a1))]) (pc' := 5) C (c_X7_isVersion (kl k) (kg k) h ad S a1 hn1) cw_X7_72 ok_X7_isVersion rfl (by decide) 0 rfl rfl [0, 1, 2, 3, 4, 5, 6] rfl rfl rfl (Nat.le_of_ble_eq_true rfl) (Nat.zero_le _) (Nat.zero_le _) rfl dX7_joins_2 rfl rfl ?_
  refine x_ifB_ne (tgt := 10) (pc' := 8) C dX7_joins_5 (by decide) rfl (fun c2 => ?_) (fun c2 => ?_)
  · rw [if_pos c2] at hRES
    replace hok := hok.1 c2
    refine x_iload_n (pc' := 11) C dX7_joins_10 rfl rfl rfl ?_
    refine x_if_ne (tgt := 17) (pc' := 14) C dX7_joins_11 (by decide) rfl (fun c3 => ?_) (fun c3 => ?_)
    · rw [if_neg c3] at hRES
      replace hok := hok.2 c3
      refine x_aload_n (pc' := 18) C dX7_joins_17 rfl rfl rfl ?_
      refine x_iload_n (pc' := 19) C dX7_joins_18 rfl rfl rfl ?_
      obtain ⟨hn4, hok⟩ := hok
      refine x_RV (st := []) (st2 := [.int (bI (f_X7_hangs S a1))]) (pc' := 22) C (c_X7_hangs (kl k) (kg k) h ad S a1 hn4) cw_X7_43 ok_X7_hangs rfl (by decide) 0 rfl rfl [0, 1, 2, 3, 4, 5, 6] rfl rfl rfl (Nat.le_of_ble_eq_true rfl) (Nat.zero_le _) (Nat.zero_le _) rfl dX7_joins_19 rfl rfl ?_
      refine x_ifB_eq (tgt := 28) (pc' := 25) C dX7_joins_22 (by decide) rfl (fun c5 => ?_) (fun c5 => ?_)
      · rw [if_neg c5] at hRES
        replace hok := hok.2 c5
        refine x_aload_n (pc' := 29) C dX7_joins_28 rfl rfl rfl ?_
        refine x_get (pc' := 32) (v := .ref (ad 0)) C 0 0 inBX7 rfl rfl (by decide) fl_X7_7 rfl rfl dX7_joins_29 rfl ?_
        refine x_aload_n (pc' := 33) C dX7_joins_32 rfl rfl rfl ?_
        refine x_iload_n (pc' := 34) C dX7_joins_33 rfl rfl rfl ?_
        obtain ⟨hn6, hok⟩ := hok
        refine x_RV (st := [.ref (ad 0)]) (st2 := [.int (f_X7_rootOf S a1), .ref (ad 0)]) (pc' := 37) C (c_X7_rootOf (kl k) (kg k) h ad S a1 hn6) cw_X7_84 ok_X7_rootOf rfl (by decide) 0 rfl rfl [0, 1, 2, 3, 4, 5, 6] rfl rfl rfl (Nat.le_of_ble_eq_true rfl) (Nat.zero_le _) (Nat.zero_le _) rfl dX7_joins_34 rfl rfl ?_
        refine x_iconst (v := 3) (pc' := 38) C dX7_joins_37 rfl (by decide) ?_
        refine x_RS (st := [.ref (ad 0)]) (st2 := [.int (f_X7_of (f_X7_rootOf S a1) 3), .ref (ad 0)]) (pc' := 41) C (c_X7_of (kl k) (kg k) (f_X7_rootOf S a1) 3) cw_X7_32 ok_X7_of (by decide) [] rfl rfl rfl (Nat.le_of_ble_eq_true rfl) (Nat.zero_le _) (Nat.zero_le _) rfl dX7_joins_38 rfl rfl ?_
        refine x_iconst (v := 0) (pc' := 42) C dX7_joins_41 rfl (by decide) ?_
        obtain ⟨hn7, hok⟩ := hok
        obtain ⟨z8, ez8⟩ : ∃ z, z = (setF S 0 (upd (S.2 0) ((f_X7_of (f_X7_rootOf S a1) 3)).toNatClampNeg 0)) := ⟨_, rfl⟩
        replace hRES := bd hRES z8 ez8
        replace hok := bdP hok z8 ez8
        refine x_iast (pc' := 43) (f := S.2 0) (w' := wMo (kg k) h ad z8) C B 1 rfl hn7 dX7_joins_42 rfl (by rw [ez8]; rfl) ?_
        refine x_aload_n (pc' := 44) C dX7_joins_43 rfl rfl rfl ?_
        refine x_get (pc' := 47) (v := .ref (ad 0)) C 0 0 inBX7 rfl rfl (by decide) fl_X7_7 rfl rfl dX7_joins_44 rfl ?_
        refine x_iload_n (pc' := 48) C dX7_joins_47 rfl rfl rfl ?_
        refine x_iconst (v := 2) (pc' := 49) C dX7_joins_48 rfl (by decide) ?_
        refine x_RS (st := [.ref (ad 0)]) (st2 := [.int (f_X7_of a1 2), .ref (ad 0)]) (pc' := 52) C (c_X7_of (kl k) (kg k) a1 2) cw_X7_32 ok_X7_of (by decide) [] rfl rfl rfl (Nat.le_of_ble_eq_true rfl) (Nat.zero_le _) (Nat.zero_le _) rfl dX7_joins_49 rfl rfl ?_
        refine x_iconst (v := 1) (pc' := 53) C dX7_joins_52 rfl (by decide) ?_
        obtain ⟨hn9, hok⟩ := hok
        obtain ⟨z10, ez10⟩ : ∃ z, z = (setF z8 0 (upd (z8.2 0) ((f_X7_of a1 2)).toNatClampNeg 1)) := ⟨_, rfl⟩
        replace hRES := bd hRES z10 ez10
        replace hok := bdP hok z10 ez10
        refine x_iast (pc' := 54) (f := z8.2 0) (w' := wMo (kg k) h ad z10) C B 1 rfl hn9 dX7_joins_53 rfl (by rw [ez10]; rfl) ?_
        refine x_aload_n (pc' := 55) C dX7_joins_54 rfl rfl rfl ?_
        refine x_iconst (v := 1) (pc' := 56) C dX7_joins_55 rfl (by decide) ?_
        obtain ⟨hn11, hok⟩ := hok
        refine x_RV (st := []) (st2 := [.int (f_X7_versions z10 1)]) (pc' := 59) C (c_X7_versions (kl k) (kg k) h ad z10 1 hn11) cw_X7_81 ok_X7_versions rfl (by decide) 0 rfl rfl [0, 1, 2, 3, 4, 5, 6] rfl rfl rfl (Nat.le_of_ble_eq_true rfl) (Nat.zero_le _) (Nat.zero_le _) rfl dX7_joins_56 rfl rfl ?_
        exact x_iret C (Nat.zero_le _) (Nat.zero_le _) dX7_joins_59 ⟨by rw [hRES], by rw [hRES]⟩
      · rw [if_pos c5] at hRES
        replace hok := hok.1 c5
        refine x_bipush (v := (-5)) (pc' := 27) C dX7_joins_25 rfl (by decide) ?_
        exact x_iret C (Nat.zero_le _) (Nat.zero_le _) dX7_joins_27 ⟨by rw [hRES], by rw [hRES]⟩
    · rw [if_pos c3] at hRES
      replace hok := hok.1 c3
      refine x_bipush (v := (-4)) (pc' := 16) C dX7_joins_14 rfl (by decide) ?_
      exact x_iret C (Nat.zero_le _) (Nat.zero_le _) dX7_joins_16 ⟨by rw [hRES], by rw [hRES]⟩
  · rw [if_neg c2] at hRES
    replace hok := hok.2 c2
    refine x_iconst (v := (-1)) (pc' := 9) C dX7_joins_8 rfl (by decide) ?_
    exact x_iret C (Nat.zero_le _) (Nat.zero_le _) dX7_joins_9 ⟨by rw [hRES], by rw [hRES]⟩

def f_X7_sets (S : CS) (a1 : Int32) (a2 : Int32) : Int32 × CS := (if (f_X7_in a1 0 1) = true then (if a1 = 0 then (if (f_X7_in a2 a1 2) = true then (bind1 (setF S 0 (upd (S.2 0) ((312 + a1)).toNatClampNeg a2)) (fun z11 => (if ((S.2 0) ((312 + a1)).toNatClampNeg) = a2 then ((-5), z11) else (((S.2 0) ((312 + a1)).toNatClampNeg), z11)))) else ((-2), S)) else (if (f_X7_in a2 a1 30) = true then (bind1 (setF S 0 (upd (S.2 0) ((312 + a1)).toNatClampNeg a2)) (fun z6 => (if ((S.2 0) ((312 + a1)).toNatClampNeg) = a2 then ((-5), z6) else (((S.2 0) ((312 + a1)).toNatClampNeg), z6)))) else ((-2), S))) else ((-1), S))
def o_X7_sets (S : CS) (a1 : Int32) (a2 : Int32) : Prop := (((f_X7_in a1 0 1) = true → ((a1 = 0 → (((f_X7_in a2 a1 2) = true → (vp_in (312 + a1) 318 ∧ (vp_in (312 + a1) 318 ∧ (bind1 (setF S 0 (upd (S.2 0) ((312 + a1)).toNatClampNeg a2)) (fun z11 => ((((S.2 0) ((312 + a1)).toNatClampNeg) = a2 → True) ∧ (¬ ((S.2 0) ((312 + a1)).toNatClampNeg) = a2 → True))))))) ∧ (¬ (f_X7_in a2 a1 2) = true → True))) ∧ (¬ (a1 = 0) → (((f_X7_in a2 a1 30) = true → (vp_in (312 + a1) 318 ∧ (vp_in (312 + a1) 318 ∧ (bind1 (setF S 0 (upd (S.2 0) ((312 + a1)).toNatClampNeg a2)) (fun z6 => ((((S.2 0) ((312 + a1)).toNatClampNeg) = a2 → True) ∧ (¬ ((S.2 0) ((312 + a1)).toNatClampNeg) = a2 → True))))))) ∧ (¬ (f_X7_in a2 a1 30) = true → True))))) ∧ (¬ (f_X7_in a1 0 1) = true → True))
set_option maxRecDepth 100000 in
set_option maxHeartbeats 8000000 in
theorem c_X7_sets (l : Launch) (g : GT) (h : Nat) (ad : Nat → Nat) (S : CS) (a1 : Int32) (a2 : Int32) (hok : o_X7_sets S a1 a2) : CW l yX7_sets (.code yX7_sets cX7_sets 4 (some .int)) 1 g [.ref h, .int a1, .int a2] (wMo g h ad S) (some (.int (f_X7_sets S a1 a2).1)) (wMo g h ad (f_X7_sets S a1 a2).2) := by
  obtain ⟨RES, hRES⟩ : ∃ z, z = (f_X7_sets S a1 a2) := ⟨_, rfl⟩
  rw [← hRES]
  unfold f_X7_sets at hRES
  unfold o_X7_sets at hok
  refine CWx.of (nL := 4) (ret := (some .int)) (own := RX7) (cc := cX7_sets) rfl (by decide) rfl (List.forall_mem_cons.mpr ⟨rfl, (List.forall_mem_cons.mpr ⟨rfl, (List.forall_mem_cons.mpr ⟨rfl, (fun _ h => absurd h List.not_mem_nil)⟩)⟩)⟩) (Nat.le_of_ble_eq_true rfl) ?_
  intro k C B hin hkl hkg
  subst hkl; subst hkg
  refine x_loc2 (L' := [some (.ref h), some (.int a1), some (.int a2), none]) rfl ?_
  refine x_iload_n (pc' := 1) C dX7_sets_0 rfl rfl rfl ?_
  refine x_iconst (v := 0) (pc' := 2) C dX7_sets_1 rfl (by decide) ?_
  refine x_iconst (v := 1) (pc' := 3) C dX7_sets_2 rfl (by decide) ?_
  refine x_RS (st := []) (st2 := [.int (bI (f_X7_in a1 0 1))]) (pc' := 6) C (c_X7_in (kl k) (kg k) a1 0 1) cw_X7_36 ok_X7_in (by decide) [] rfl rfl rfl (Nat.le_of_ble_eq_true rfl) (Nat.zero_le _) (Nat.zero_le _) rfl dX7_sets_3 rfl rfl ?_
  refine x_ifB_ne (tgt := 11) (pc' := 9) C dX7_sets_6 (by decide) rfl (fun c1 => ?_) (fun c1 => ?_)
  · rw [if_pos c1] at hRES
    replace hok := hok.1 c1
    refine x_iload_n (pc' := 12) C dX7_sets_11 rfl rfl rfl ?_
    refine x_iload_n (pc' := 13) C dX7_sets_12 rfl rfl rfl ?_
    refine x_iload_n (pc' := 14) C dX7_sets_13 rfl rfl rfl ?_
    refine x_if_ne (tgt := 21) (pc' := 17) C dX7_sets_14 (by decide) rfl (fun c2 => ?_) (fun c2 => ?_)
    · rw [if_neg c2] at hRES
      replace hok := hok.2 c2
      refine x_bipush (v := 30) (pc' := 23) C dX7_sets_21 rfl (by decide) ?_
      refine x_RS (st := []) (st2 := [.int (bI (f_X7_in a2 a1 30))]) (pc' := 26) C (c_X7_in (kl k) (kg k) a2 a1 30) cw_X7_36 ok_X7_in (by decide) [] rfl rfl rfl (Nat.le_of_ble_eq_true rfl) (Nat.zero_le _) (Nat.zero_le _) rfl dX7_sets_23 rfl rfl ?_
      refine x_ifB_ne (tgt := 32) (pc' := 29) C dX7_sets_26 (by decide) rfl (fun c3 => ?_) (fun c3 => ?_)
      · rw [if_pos c3] at hRES
        replace hok := hok.1 c3
        refine x_aload_n (pc' := 33) C dX7_sets_32 rfl rfl rfl ?_
        refine x_get (pc' := 36) (v := .ref (ad 0)) C 0 0 inBX7 rfl rfl (by decide) fl_X7_7 rfl rfl dX7_sets_33 rfl ?_
        refine x_sipush (v := 312) (pc' := 39) C dX7_sets_36 rfl (by decide) ?_
        refine x_iload_n (pc' := 40) C dX7_sets_39 rfl rfl rfl ?_
        refine x_iadd (pc' := 41) (v := (312 + a1)) C dX7_sets_40 rfl rfl ?_
        obtain ⟨hn4, hok⟩ := hok
        refine x_iald (pc' := 42) (f := S.2 0) (v := ((S.2 0) ((312 + a1)).toNatClampNeg)) C 1 rfl hn4 rfl dX7_sets_41 rfl ?_
        refine x_istore_n (pc' := 43) (L' := [some (.ref h), some (.int a1), some (.int a2), some (.int ((S.2 0) ((312 + a1)).toNatClampNeg))]) C dX7_sets_42 rfl rfl (Nat.le_of_ble_eq_true rfl) rfl ?_
        refine x_aload_n (pc' := 44) C dX7_sets_43 rfl rfl rfl ?_
        refine x_get (pc' := 47) (v := .ref (ad 0)) C 0 0 inBX7 rfl rfl (by decide) fl_X7_7 rfl rfl dX7_sets_44 rfl ?_
        refine x_sipush (v := 312) (pc' := 50) C dX7_sets_47 rfl (by decide) ?_
        refine x_iload_n (pc' := 51) C dX7_sets_50 rfl rfl rfl ?_
        refine x_iadd (pc' := 52) (v := (312 + a1)) C dX7_sets_51 rfl rfl ?_
        refine x_iload_n (pc' := 53) C dX7_sets_52 rfl rfl rfl ?_
        obtain ⟨hn5, hok⟩ := hok
        obtain ⟨z6, ez6⟩ : ∃ z, z = (setF S 0 (upd (S.2 0) ((312 + a1)).toNatClampNeg a2)) := ⟨_, rfl⟩
        replace hRES := bd hRES z6 ez6
        replace hok := bdP hok z6 ez6
        refine x_iast (pc' := 54) (f := S.2 0) (w' := wMo (kg k) h ad z6) C B 1 rfl hn5 dX7_sets_53 rfl (by rw [ez6]; rfl) ?_
        refine x_iload_n (pc' := 55) C dX7_sets_54 rfl rfl rfl ?_
        refine x_iload_n (pc' := 56) C dX7_sets_55 rfl rfl rfl ?_
        refine x_icmp_ne (tgt := 64) (pc' := 59) C dX7_sets_56 (by decide) rfl (fun c7 => ?_) (fun c7 => ?_)
        · rw [if_neg c7] at hRES
          replace hok := hok.2 c7
          refine x_iload_n (pc' := 65) C dX7_sets_64 rfl rfl rfl ?_
          exact x_iret C (Nat.zero_le _) (Nat.zero_le _) dX7_sets_65 ⟨by rw [hRES], by rw [hRES]⟩
        · rw [if_pos c7] at hRES
          replace hok := hok.1 c7
          refine x_bipush (v := (-5)) (pc' := 61) C dX7_sets_59 rfl (by decide) ?_
          refine x_goto (tgt := 65) C dX7_sets_61 (by decide) ?_
          exact x_iret C (Nat.zero_le _) (Nat.zero_le _) dX7_sets_65 ⟨by rw [hRES], by rw [hRES]⟩
      · rw [if_neg c3] at hRES
        replace hok := hok.2 c3
        refine x_bipush (v := (-2)) (pc' := 31) C dX7_sets_29 rfl (by decide) ?_
        exact x_iret C (Nat.zero_le _) (Nat.zero_le _) dX7_sets_31 ⟨by rw [hRES], by rw [hRES]⟩
    · rw [if_pos c2] at hRES
      replace hok := hok.1 c2
      refine x_iconst (v := 2) (pc' := 18) C dX7_sets_17 rfl (by decide) ?_
      refine x_goto (tgt := 23) C dX7_sets_18 (by decide) ?_
      refine x_RS (st := []) (st2 := [.int (bI (f_X7_in a2 a1 2))]) (pc' := 26) C (c_X7_in (kl k) (kg k) a2 a1 2) cw_X7_36 ok_X7_in (by decide) [] rfl rfl rfl (Nat.le_of_ble_eq_true rfl) (Nat.zero_le _) (Nat.zero_le _) rfl dX7_sets_23 rfl rfl ?_
      refine x_ifB_ne (tgt := 32) (pc' := 29) C dX7_sets_26 (by decide) rfl (fun c8 => ?_) (fun c8 => ?_)
      · rw [if_pos c8] at hRES
        replace hok := hok.1 c8
        refine x_aload_n (pc' := 33) C dX7_sets_32 rfl rfl rfl ?_
        refine x_get (pc' := 36) (v := .ref (ad 0)) C 0 0 inBX7 rfl rfl (by decide) fl_X7_7 rfl rfl dX7_sets_33 rfl ?_
        refine x_sipush (v := 312) (pc' := 39) C dX7_sets_36 rfl (by decide) ?_
        refine x_iload_n (pc' := 40) C dX7_sets_39 rfl rfl rfl ?_
        refine x_iadd (pc' := 41) (v := (312 + a1)) C dX7_sets_40 rfl rfl ?_
        obtain ⟨hn9, hok⟩ := hok
        refine x_iald (pc' := 42) (f := S.2 0) (v := ((S.2 0) ((312 + a1)).toNatClampNeg)) C 1 rfl hn9 rfl dX7_sets_41 rfl ?_
        refine x_istore_n (pc' := 43) (L' := [some (.ref h), some (.int a1), some (.int a2), some (.int ((S.2 0) ((312 + a1)).toNatClampNeg))]) C dX7_sets_42 rfl rfl (Nat.le_of_ble_eq_true rfl) rfl ?_
        refine x_aload_n (pc' := 44) C dX7_sets_43 rfl rfl rfl ?_
        refine x_get (pc' := 47) (v := .ref (ad 0)) C 0 0 inBX7 rfl rfl (by decide) fl_X7_7 rfl rfl dX7_sets_44 rfl ?_
        refine x_sipush (v := 312) (pc' := 50) C dX7_sets_47 rfl (by decide) ?_
        refine x_iload_n (pc' := 51) C dX7_sets_50 rfl rfl rfl ?_
        refine x_iadd (pc' := 52) (v := (312 + a1)) C dX7_sets_51 rfl rfl ?_
        refine x_iload_n (pc' := 53) C dX7_sets_52 rfl rfl rfl ?_
        obtain ⟨hn10, hok⟩ := hok
        obtain ⟨z11, ez11⟩ : ∃ z, z = (setF S 0 (upd (S.2 0) ((312 + a1)).toNatClampNeg a2)) := ⟨_, rfl⟩
        replace hRES := bd hRES z11 ez11
        replace hok := bdP hok z11 ez11
        refine x_iast (pc' := 54) (f := S.2 0) (w' := wMo (kg k) h ad z11) C B 1 rfl hn10 dX7_sets_53 rfl (by rw [ez11]; rfl) ?_
        refine x_iload_n (pc' := 55) C dX7_sets_54 rfl rfl rfl ?_
        refine x_iload_n (pc' := 56) C dX7_sets_55 rfl rfl rfl ?_
        refine x_icmp_ne (tgt := 64) (pc' := 59) C dX7_sets_56 (by decide) rfl (fun c12 => ?_) (fun c12 => ?_)
        · rw [if_neg c12] at hRES
          replace hok := hok.2 c12
          refine x_iload_n (pc' := 65) C dX7_sets_64 rfl rfl rfl ?_
          exact x_iret C (Nat.zero_le _) (Nat.zero_le _) dX7_sets_65 ⟨by rw [hRES], by rw [hRES]⟩
        · rw [if_pos c12] at hRES
          replace hok := hok.1 c12
          refine x_bipush (v := (-5)) (pc' := 61) C dX7_sets_59 rfl (by decide) ?_
          refine x_goto (tgt := 65) C dX7_sets_61 (by decide) ?_
          exact x_iret C (Nat.zero_le _) (Nat.zero_le _) dX7_sets_65 ⟨by rw [hRES], by rw [hRES]⟩
      · rw [if_neg c8] at hRES
        replace hok := hok.2 c8
        refine x_bipush (v := (-2)) (pc' := 31) C dX7_sets_29 rfl (by decide) ?_
        exact x_iret C (Nat.zero_le _) (Nat.zero_le _) dX7_sets_31 ⟨by rw [hRES], by rw [hRES]⟩
  · rw [if_neg c1] at hRES
    replace hok := hok.2 c1
    refine x_iconst (v := (-1)) (pc' := 10) C dX7_sets_9 rfl (by decide) ?_
    exact x_iret C (Nat.zero_le _) (Nat.zero_le _) dX7_sets_10 ⟨by rw [hRES], by rw [hRES]⟩

def f_X7_sign (S : CS) (a1 : Int32) : CS := (if S.1 14 = 0 then (if S.1 13 < S.1 7 then (if ((S.2 6) (S.1 13).toNatClampNeg) = a1 then (bind1 (setI S 14 0) (fun z11 => (bind1 (setI z11 13 (z11.1 13 + 1)) (fun z13 => z13)))) else (bind1 (setI S 14 1) (fun z14 => (bind1 (setI z14 13 (z14.1 13 + 0)) (fun z16 => z16))))) else (bind1 (setI S 14 1) (fun z6 => (bind1 (setI z6 13 (z6.1 13 + 0)) (fun z8 => z8))))) else (bind1 (setI S 14 1) (fun z2 => (bind1 (setI z2 13 (z2.1 13 + 0)) (fun z4 => z4)))))
def o_X7_sign (S : CS) (a1 : Int32) : Prop := ((S.1 14 = 0 → ((S.1 13 < S.1 7 → (vp_in (S.1 13) 80 ∧ ((((S.2 6) (S.1 13).toNatClampNeg) = a1 → (bind1 (setI S 14 0) (fun z11 => (bind1 (setI z11 13 (z11.1 13 + 1)) (fun z13 => True))))) ∧ (¬ ((S.2 6) (S.1 13).toNatClampNeg) = a1 → (bind1 (setI S 14 1) (fun z14 => (bind1 (setI z14 13 (z14.1 13 + 0)) (fun z16 => True)))))))) ∧ (¬ (S.1 13 < S.1 7) → (bind1 (setI S 14 1) (fun z6 => (bind1 (setI z6 13 (z6.1 13 + 0)) (fun z8 => True))))))) ∧ (¬ (S.1 14 = 0) → (bind1 (setI S 14 1) (fun z2 => (bind1 (setI z2 13 (z2.1 13 + 0)) (fun z4 => True))))))
set_option maxRecDepth 100000 in
set_option maxHeartbeats 8000000 in
theorem c_X7_sign (l : Launch) (g : GT) (h : Nat) (ad : Nat → Nat) (S : CS) (a1 : Int32) (hok : o_X7_sign S a1) : CW l yX7_sign (.code yX7_sign cX7_sign 2 none) 0 g [.ref h, .int a1] (wMo g h ad S) none (wMo g h ad (f_X7_sign S a1)) := by
  obtain ⟨RES, hRES⟩ : ∃ z, z = (f_X7_sign S a1) := ⟨_, rfl⟩
  rw [← hRES]
  unfold f_X7_sign at hRES
  unfold o_X7_sign at hok
  refine CWx.of (nL := 2) (ret := none) (own := RX7) (cc := cX7_sign) rfl (by decide) rfl (List.forall_mem_cons.mpr ⟨rfl, (List.forall_mem_cons.mpr ⟨rfl, (fun _ h => absurd h List.not_mem_nil)⟩)⟩) (Nat.le_of_ble_eq_true rfl) ?_
  intro k C B hin hkl hkg
  subst hkl; subst hkg
  refine x_loc2 (L' := [some (.ref h), some (.int a1)]) rfl ?_
  refine x_aload_n (pc' := 1) C dX7_sign_0 rfl rfl rfl ?_
  refine x_aload_n (pc' := 2) C dX7_sign_1 rfl rfl rfl ?_
  refine x_get (pc' := 5) (v := .int (S.1 14)) C 0 14 inBX7 rfl rfl (by decide) fl_X7_128 rfl rfl dX7_sign_2 rfl ?_
  refine x_if_ne (tgt := 32) (pc' := 8) C dX7_sign_5 (by decide) rfl (fun c1 => ?_) (fun c1 => ?_)
  · rw [if_neg c1] at hRES
    replace hok := hok.2 c1
    refine x_iconst (v := 1) (pc' := 33) C dX7_sign_32 rfl (by decide) ?_
    refine x_goto (tgt := 37) C dX7_sign_33 (by decide) ?_
    obtain ⟨z2, ez2⟩ : ∃ z, z = (setI S 14 1) := ⟨_, rfl⟩
    replace hRES := bd hRES z2 ez2
    replace hok := bdP hok z2 ez2
    refine x_put (pc' := 40) (w' := wMo (kg k) h ad z2) (ty := .boolean) C B 0 14 inBX7 tyX7 tyX7_ok nmX7 rfl rfl (by decide) fl_X7_128 rfl rfl rfl rfl rfl (Nat.le_of_ble_eq_true rfl) dX7_sign_37 rfl (by rw [ez2]; rfl) ?_
    refine x_aload_n (pc' := 41) C dX7_sign_40 rfl rfl rfl ?_
    refine x_dup (pc' := 42) C dX7_sign_41 rfl rfl ?_
    refine x_get (pc' := 45) (v := .int (z2.1 13)) C 0 13 inBX7 rfl rfl (by decide) fl_X7_132 rfl rfl dX7_sign_42 rfl ?_
    refine x_aload_n (pc' := 46) C dX7_sign_45 rfl rfl rfl ?_
    refine x_get (pc' := 49) (v := .int (z2.1 14)) C 0 14 inBX7 rfl rfl (by decide) fl_X7_128 rfl rfl dX7_sign_46 rfl ?_
    refine x_cv (y := 1) (by rw [ez2]; rfl) ?_
    refine x_if_eq (tgt := 56) (pc' := 52) C dX7_sign_49 (by decide) rfl (fun c3 => absurd c3 (by decide)) (fun c3 => ?_)
    refine x_iconst (v := 0) (pc' := 53) C dX7_sign_52 rfl (by decide) ?_
    refine x_goto (tgt := 57) C dX7_sign_53 (by decide) ?_
    refine x_iadd (pc' := 58) (v := (z2.1 13 + 0)) C dX7_sign_57 rfl rfl ?_
    obtain ⟨z4, ez4⟩ : ∃ z, z = (setI z2 13 (z2.1 13 + 0)) := ⟨_, rfl⟩
    replace hRES := bd hRES z4 ez4
    replace hok := bdP hok z4 ez4
    refine x_put (pc' := 61) (w' := wMo (kg k) h ad z4) (ty := .int) C B 0 13 inBX7 tyX7 tyX7_ok nmX7 rfl rfl (by decide) fl_X7_132 rfl rfl rfl rfl rfl (Nat.le_of_ble_eq_true rfl) dX7_sign_58 rfl (by rw [ez4]; rfl) ?_
    exact x_vret C (Nat.zero_le _) (Nat.zero_le _) dX7_sign_61 ⟨rfl, by rw [hRES]⟩
  · rw [if_pos c1] at hRES
    replace hok := hok.1 c1
    refine x_aload_n (pc' := 9) C dX7_sign_8 rfl rfl rfl ?_
    refine x_get (pc' := 12) (v := .int (S.1 13)) C 0 13 inBX7 rfl rfl (by decide) fl_X7_132 rfl rfl dX7_sign_9 rfl ?_
    refine x_aload_n (pc' := 13) C dX7_sign_12 rfl rfl rfl ?_
    refine x_get (pc' := 16) (v := .int (S.1 7)) C 0 7 inBX7 rfl rfl (by decide) fl_X7_125 rfl rfl dX7_sign_13 rfl ?_
    refine x_icmp_ge (tgt := 32) (pc' := 19) C dX7_sign_16 (by decide) rfl (fun c5 => ?_) (fun c5 => ?_)
    · rw [if_neg c5] at hRES
      replace hok := hok.2 c5
      refine x_iconst (v := 1) (pc' := 33) C dX7_sign_32 rfl (by decide) ?_
      refine x_goto (tgt := 37) C dX7_sign_33 (by decide) ?_
      obtain ⟨z6, ez6⟩ : ∃ z, z = (setI S 14 1) := ⟨_, rfl⟩
      replace hRES := bd hRES z6 ez6
      replace hok := bdP hok z6 ez6
      refine x_put (pc' := 40) (w' := wMo (kg k) h ad z6) (ty := .boolean) C B 0 14 inBX7 tyX7 tyX7_ok nmX7 rfl rfl (by decide) fl_X7_128 rfl rfl rfl rfl rfl (Nat.le_of_ble_eq_true rfl) dX7_sign_37 rfl (by rw [ez6]; rfl) ?_
      refine x_aload_n (pc' := 41) C dX7_sign_40 rfl rfl rfl ?_
      refine x_dup (pc' := 42) C dX7_sign_41 rfl rfl ?_
      refine x_get (pc' := 45) (v := .int (z6.1 13)) C 0 13 inBX7 rfl rfl (by decide) fl_X7_132 rfl rfl dX7_sign_42 rfl ?_
      refine x_aload_n (pc' := 46) C dX7_sign_45 rfl rfl rfl ?_
      refine x_get (pc' := 49) (v := .int (z6.1 14)) C 0 14 inBX7 rfl rfl (by decide) fl_X7_128 rfl rfl dX7_sign_46 rfl ?_
      refine x_cv (y := 1) (by rw [ez6]; rfl) ?_
      refine x_if_eq (tgt := 56) (pc' := 52) C dX7_sign_49 (by decide) rfl (fun c7 => absurd c7 (by decide)) (fun c7 => ?_)
      refine x_iconst (v := 0) (pc' := 53) C dX7_sign_52 rfl (by decide) ?_
      refine x_goto (tgt := 57) C dX7_sign_53 (by decide) ?_
      refine x_iadd (pc' := 58) (v := (z6.1 13 + 0)) C dX7_sign_57 rfl rfl ?_
      obtain ⟨z8, ez8⟩ : ∃ z, z = (setI z6 13 (z6.1 13 + 0)) := ⟨_, rfl⟩
      replace hRES := bd hRES z8 ez8
      replace hok := bdP hok z8 ez8
      refine x_put (pc' := 61) (w' := wMo (kg k) h ad z8) (ty := .int) C B 0 13 inBX7 tyX7 tyX7_ok nmX7 rfl rfl (by decide) fl_X7_132 rfl rfl rfl rfl rfl (Nat.le_of_ble_eq_true rfl) dX7_sign_58 rfl (by rw [ez8]; rfl) ?_
      exact x_vret C (Nat.zero_le _) (Nat.zero_le _) dX7_sign_61 ⟨rfl, by rw [hRES]⟩
    · rw [if_pos c5] at hRES
      replace hok := hok.1 c5
      refine x_aload_n (pc' := 20) C dX7_sign_19 rfl rfl rfl ?_
      refine x_get (pc' := 23) (v := .ref (ad 6)) C 0 6 inBX7 rfl rfl (by decide) fl_X7_22 rfl rfl dX7_sign_20 rfl ?_
      refine x_aload_n (pc' := 24) C dX7_sign_23 rfl rfl rfl ?_
      refine x_get (pc' := 27) (v := .int (S.1 13)) C 0 13 inBX7 rfl rfl (by decide) fl_X7_132 rfl rfl dX7_sign_24 rfl ?_
      obtain ⟨hn9, hok⟩ := hok
      refine x_iald (pc' := 28) (f := S.2 6) (v := ((S.2 6) (S.1 13).toNatClampNeg)) C 5 rfl hn9 rfl dX7_sign_27 rfl ?_
      refine x_iload_n (pc' := 29) C dX7_sign_28 rfl rfl rfl ?_
      refine x_icmp_eq (tgt := 36) (pc' := 32) C dX7_sign_29 (by decide) rfl (fun c10 => ?_) (fun c10 => ?_)
      · rw [if_pos c10] at hRES
        replace hok := hok.1 c10
        refine x_iconst (v := 0) (pc' := 37) C dX7_sign_36 rfl (by decide) ?_
        obtain ⟨z11, ez11⟩ : ∃ z, z = (setI S 14 0) := ⟨_, rfl⟩
        replace hRES := bd hRES z11 ez11
        replace hok := bdP hok z11 ez11
        refine x_put (pc' := 40) (w' := wMo (kg k) h ad z11) (ty := .boolean) C B 0 14 inBX7 tyX7 tyX7_ok nmX7 rfl rfl (by decide) fl_X7_128 rfl rfl rfl rfl rfl (Nat.le_of_ble_eq_true rfl) dX7_sign_37 rfl (by rw [ez11]; rfl) ?_
        refine x_aload_n (pc' := 41) C dX7_sign_40 rfl rfl rfl ?_
        refine x_dup (pc' := 42) C dX7_sign_41 rfl rfl ?_
        refine x_get (pc' := 45) (v := .int (z11.1 13)) C 0 13 inBX7 rfl rfl (by decide) fl_X7_132 rfl rfl dX7_sign_42 rfl ?_
        refine x_aload_n (pc' := 46) C dX7_sign_45 rfl rfl rfl ?_
        refine x_get (pc' := 49) (v := .int (z11.1 14)) C 0 14 inBX7 rfl rfl (by decide) fl_X7_128 rfl rfl dX7_sign_46 rfl ?_
        refine x_cv (y := 0) (by rw [ez11]; rfl) ?_
        refine x_if_eq (tgt := 56) (pc' := 52) C dX7_sign_49 (by decide) rfl (fun c12 => ?_) (fun c12 => absurd c12 (by decide))
        refine x_iconst (v := 1) (pc' := 57) C dX7_sign_56 rfl (by decide) ?_
        refine x_iadd (pc' := 58) (v := (z11.1 13 + 1)) C dX7_sign_57 rfl rfl ?_
        obtain ⟨z13, ez13⟩ : ∃ z, z = (setI z11 13 (z11.1 13 + 1)) := ⟨_, rfl⟩
        replace hRES := bd hRES z13 ez13
        replace hok := bdP hok z13 ez13
        refine x_put (pc' := 61) (w' := wMo (kg k) h ad z13) (ty := .int) C B 0 13 inBX7 tyX7 tyX7_ok nmX7 rfl rfl (by decide) fl_X7_132 rfl rfl rfl rfl rfl (Nat.le_of_ble_eq_true rfl) dX7_sign_58 rfl (by rw [ez13]; rfl) ?_
        exact x_vret C (Nat.zero_le _) (Nat.zero_le _) dX7_sign_61 ⟨rfl, by rw [hRES]⟩
      · rw [if_neg c10] at hRES
        replace hok := hok.2 c10
        refine x_iconst (v := 1) (pc' := 33) C dX7_sign_32 rfl (by decide) ?_
        refine x_goto (tgt := 37) C dX7_sign_33 (by decide) ?_
        obtain ⟨z14, ez14⟩ : ∃ z, z = (setI S 14 1) := ⟨_, rfl⟩
        replace hRES := bd hRES z14 ez14
        replace hok := bdP hok z14 ez14
        refine x_put (pc' := 40) (w' := wMo (kg k) h ad z14) (ty := .boolean) C B 0 14 inBX7 tyX7 tyX7_ok nmX7 rfl rfl (by decide) fl_X7_128 rfl rfl rfl rfl rfl (Nat.le_of_ble_eq_true rfl) dX7_sign_37 rfl (by rw [ez14]; rfl) ?_
        refine x_aload_n (pc' := 41) C dX7_sign_40 rfl rfl rfl ?_
        refine x_dup (pc' := 42) C dX7_sign_41 rfl rfl ?_
        refine x_get (pc' := 45) (v := .int (z14.1 13)) C 0 13 inBX7 rfl rfl (by decide) fl_X7_132 rfl rfl dX7_sign_42 rfl ?_
        refine x_aload_n (pc' := 46) C dX7_sign_45 rfl rfl rfl ?_
        refine x_get (pc' := 49) (v := .int (z14.1 14)) C 0 14 inBX7 rfl rfl (by decide) fl_X7_128 rfl rfl dX7_sign_46 rfl ?_
        refine x_cv (y := 1) (by rw [ez14]; rfl) ?_
        refine x_if_eq (tgt := 56) (pc' := 52) C dX7_sign_49 (by decide) rfl (fun c15 => absurd c15 (by decide)) (fun c15 => ?_)
        refine x_iconst (v := 0) (pc' := 53) C dX7_sign_52 rfl (by decide) ?_
        refine x_goto (tgt := 57) C dX7_sign_53 (by decide) ?_
        refine x_iadd (pc' := 58) (v := (z14.1 13 + 0)) C dX7_sign_57 rfl rfl ?_
        obtain ⟨z16, ez16⟩ : ∃ z, z = (setI z14 13 (z14.1 13 + 0)) := ⟨_, rfl⟩
        replace hRES := bd hRES z16 ez16
        replace hok := bdP hok z16 ez16
        refine x_put (pc' := 61) (w' := wMo (kg k) h ad z16) (ty := .int) C B 0 13 inBX7 tyX7 tyX7_ok nmX7 rfl rfl (by decide) fl_X7_132 rfl rfl rfl rfl rfl (Nat.le_of_ble_eq_true rfl) dX7_sign_58 rfl (by rw [ez16]; rfl) ?_
        exact x_vret C (Nat.zero_le _) (Nat.zero_le _) dX7_sign_61 ⟨rfl, by rw [hRES]⟩

def f_X7_isNext (S : CS) (a1 : Int32) (a2 : Int32) : Bool := (if S.1 14 = 0 then (if S.1 13 < S.1 7 then (if (f_X7_in ((S.2 6) (S.1 13).toNatClampNeg) a1 a2) = true then true else false) else false) else false)
def o_X7_isNext (S : CS) (a1 : Int32) (a2 : Int32) : Prop := ((S.1 14 = 0 → ((S.1 13 < S.1 7 → (vp_in (S.1 13) 80 ∧ (((f_X7_in ((S.2 6) (S.1 13).toNatClampNeg) a1 a2) = true → True) ∧ (¬ (f_X7_in ((S.2 6) (S.1 13).toNatClampNeg) a1 a2) = true → True)))) ∧ (¬ (S.1 13 < S.1 7) → True))) ∧ (¬ (S.1 14 = 0) → True))
set_option maxRecDepth 100000 in
set_option maxHeartbeats 8000000 in
theorem c_X7_isNext (l : Launch) (g : GT) (h : Nat) (ad : Nat → Nat) (S : CS) (a1 : Int32) (a2 : Int32) (hok : o_X7_isNext S a1 a2) : CR l yX7_isNext (.code yX7_isNext cX7_isNext 3 (some .boolean)) 1 g [.ref h, .int a1, .int a2] (wMo g h ad S) (some (.int (bI (f_X7_isNext S a1 a2)))) := by
  obtain ⟨RES, hRES⟩ : ∃ z, z = (f_X7_isNext S a1 a2) := ⟨_, rfl⟩
  rw [← hRES]
  unfold f_X7_isNext at hRES
  unfold o_X7_isNext at hok
  refine CRx.of (nL := 3) (ret := (some .boolean)) (own := RX7) (cc := cX7_isNext) rfl (by decide) rfl (List.forall_mem_cons.mpr ⟨rfl, (List.forall_mem_cons.mpr ⟨rfl, (List.forall_mem_cons.mpr ⟨rfl, (fun _ h => absurd h List.not_mem_nil)⟩)⟩)⟩) (Nat.le_of_ble_eq_true rfl) ?_
  intro k C hkl hkg
  subst hkl; subst hkg
  refine x_loc2 (L' := [some (.ref h), some (.int a1), some (.int a2)]) rfl ?_
  refine x_aload_n (pc' := 1) C dX7_isNext_0 rfl rfl rfl ?_
  refine x_get (pc' := 4) (v := .int (S.1 14)) C 0 14 inBX7 rfl rfl (by decide) fl_X7_128 rfl rfl dX7_isNext_1 rfl ?_
  refine x_if_ne (tgt := 39) (pc' := 7) C dX7_isNext_4 (by decide) rfl (fun c1 => ?_) (fun c1 => ?_)
  · rw [if_neg c1] at hRES
    replace hok := hok.2 c1
    refine x_iconst (v := 0) (pc' := 40) C dX7_isNext_39 rfl (by decide) ?_
    exact x_zret (b := false) C (Nat.zero_le _) (Nat.zero_le _) dX7_isNext_40 (by rw [hRES])
  · rw [if_pos c1] at hRES
    replace hok := hok.1 c1
    refine x_aload_n (pc' := 8) C dX7_isNext_7 rfl rfl rfl ?_
    refine x_get (pc' := 11) (v := .int (S.1 13)) C 0 13 inBX7 rfl rfl (by decide) fl_X7_132 rfl rfl dX7_isNext_8 rfl ?_
    refine x_aload_n (pc' := 12) C dX7_isNext_11 rfl rfl rfl ?_
    refine x_get (pc' := 15) (v := .int (S.1 7)) C 0 7 inBX7 rfl rfl (by decide) fl_X7_125 rfl rfl dX7_isNext_12 rfl ?_
    refine x_icmp_ge (tgt := 39) (pc' := 18) C dX7_isNext_15 (by decide) rfl (fun c2 => ?_) (fun c2 => ?_)
    · rw [if_neg c2] at hRES
      replace hok := hok.2 c2
      refine x_iconst (v := 0) (pc' := 40) C dX7_isNext_39 rfl (by decide) ?_
      exact x_zret (b := false) C (Nat.zero_le _) (Nat.zero_le _) dX7_isNext_40 (by rw [hRES])
    · rw [if_pos c2] at hRES
      replace hok := hok.1 c2
      refine x_aload_n (pc' := 19) C dX7_isNext_18 rfl rfl rfl ?_
      refine x_get (pc' := 22) (v := .ref (ad 6)) C 0 6 inBX7 rfl rfl (by decide) fl_X7_22 rfl rfl dX7_isNext_19 rfl ?_
      refine x_aload_n (pc' := 23) C dX7_isNext_22 rfl rfl rfl ?_
      refine x_get (pc' := 26) (v := .int (S.1 13)) C 0 13 inBX7 rfl rfl (by decide) fl_X7_132 rfl rfl dX7_isNext_23 rfl ?_
      obtain ⟨hn3, hok⟩ := hok
      refine x_iald (pc' := 27) (f := S.2 6) (v := ((S.2 6) (S.1 13).toNatClampNeg)) C 5 rfl hn3 rfl dX7_isNext_26 rfl ?_
      refine x_iload_n (pc' := 28) C dX7_isNext_27 rfl rfl rfl ?_
      refine x_iload_n (pc' := 29) C dX7_isNext_28 rfl rfl rfl ?_
      refine x_RS (st := []) (st2 := [.int (bI (f_X7_in ((S.2 6) (S.1 13).toNatClampNeg) a1 a2))]) (pc' := 32) C (c_X7_in (kl k) (kg k) ((S.2 6) (S.1 13).toNatClampNeg) a1 a2) cw_X7_36 ok_X7_in (by decide) [] rfl rfl rfl (Nat.le_of_ble_eq_true rfl) (Nat.zero_le _) (Nat.zero_le _) rfl dX7_isNext_29 rfl rfl ?_
      refine x_ifB_eq (tgt := 39) (pc' := 35) C dX7_isNext_32 (by decide) rfl (fun c4 => ?_) (fun c4 => ?_)
      · rw [if_neg c4] at hRES
        replace hok := hok.2 c4
        refine x_iconst (v := 0) (pc' := 40) C dX7_isNext_39 rfl (by decide) ?_
        exact x_zret (b := false) C (Nat.zero_le _) (Nat.zero_le _) dX7_isNext_40 (by rw [hRES])
      · rw [if_pos c4] at hRES
        replace hok := hok.1 c4
        refine x_iconst (v := 1) (pc' := 36) C dX7_isNext_35 rfl (by decide) ?_
        refine x_goto (tgt := 40) C dX7_isNext_36 (by decide) ?_
        exact x_zret (b := true) C (Nat.zero_le _) (Nat.zero_le _) dX7_isNext_40 (by rw [hRES])

def f_X7_signs (S : CS) (a1 : Int32) (a2 : Int32) (a3 : Int32) : CS := (bind1 (f_X7_sign S a1) (fun z2 => (bind1 (f_X7_sign z2 a2) (fun z4 => (bind1 (f_X7_sign z4 a3) (fun z6 => z6))))))
def o_X7_signs (S : CS) (a1 : Int32) (a2 : Int32) (a3 : Int32) : Prop := ((o_X7_sign S a1) ∧ (bind1 (f_X7_sign S a1) (fun z2 => ((o_X7_sign z2 a2) ∧ (bind1 (f_X7_sign z2 a2) (fun z4 => ((o_X7_sign z4 a3) ∧ (bind1 (f_X7_sign z4 a3) (fun z6 => True)))))))))
set_option maxRecDepth 100000 in
set_option maxHeartbeats 8000000 in
theorem c_X7_signs (l : Launch) (g : GT) (h : Nat) (ad : Nat → Nat) (S : CS) (a1 : Int32) (a2 : Int32) (a3 : Int32) (hok : o_X7_signs S a1 a2 a3) : CW l yX7_signs (.code yX7_signs cX7_signs 4 none) 1 g [.ref h, .int a1, .int a2, .int a3] (wMo g h ad S) none (wMo g h ad (f_X7_signs S a1 a2 a3)) := by
  obtain ⟨RES, hRES⟩ : ∃ z, z = (f_X7_signs S a1 a2 a3) := ⟨_, rfl⟩
  rw [← hRES]
  unfold f_X7_signs at hRES
  unfold o_X7_signs at hok
  refine CWx.of (nL := 4) (ret := none) (own := RX7) (cc := cX7_signs) rfl (by decide) rfl (List.forall_mem_cons.mpr ⟨rfl, (List.forall_mem_cons.mpr ⟨rfl, (List.forall_mem_cons.mpr ⟨rfl, (List.forall_mem_cons.mpr ⟨rfl, (fun _ h => absurd h List.not_mem_nil)⟩)⟩)⟩)⟩) (Nat.le_of_ble_eq_true rfl) ?_
  intro k C B hin hkl hkg
  subst hkl; subst hkg
  refine x_loc2 (L' := [some (.ref h), some (.int a1), some (.int a2), some (.int a3)]) rfl ?_
  refine x_aload_n (pc' := 1) C dX7_signs_0 rfl rfl rfl ?_
  refine x_iload_n (pc' := 2) C dX7_signs_1 rfl rfl rfl ?_
  obtain ⟨hn1, hok⟩ := hok
  obtain ⟨z2, ez2⟩ : ∃ z, z = (f_X7_sign S a1) := ⟨_, rfl⟩
  replace hRES := bd hRES z2 ez2
  replace hok := bdP hok z2 ez2
  have hc := c_X7_sign (kl k) (kg k) h ad S a1 hn1
  rw [← ez2] at hc
  refine x_WV (st := []) (st2 := []) (pc' := 5) C B hc cw_X7_135 ok_X7_sign rfl (by decide) 0 rfl rfl [0, 1, 2, 3, 4, 5, 6] [] [0, 1, 2, 3, 4, 5, 6] (wMo (kg k) h ad z2) rfl rfl rfl rfl (by decide) rfl rfl rfl (Nat.le_of_ble_eq_true rfl) (Nat.zero_le _) (Nat.zero_le _) rfl dX7_signs_2 rfl rfl ?_
  refine x_aload_n (pc' := 6) C dX7_signs_5 rfl rfl rfl ?_
  refine x_iload_n (pc' := 7) C dX7_signs_6 rfl rfl rfl ?_
  obtain ⟨hn3, hok⟩ := hok
  obtain ⟨z4, ez4⟩ : ∃ z, z = (f_X7_sign z2 a2) := ⟨_, rfl⟩
  replace hRES := bd hRES z4 ez4
  replace hok := bdP hok z4 ez4
  have hc := c_X7_sign (kl k) (kg k) h ad z2 a2 hn3
  rw [← ez4] at hc
  refine x_WV (st := []) (st2 := []) (pc' := 10) C B hc cw_X7_135 ok_X7_sign rfl (by decide) 0 rfl rfl [0, 1, 2, 3, 4, 5, 6] [] [0, 1, 2, 3, 4, 5, 6] (wMo (kg k) h ad z4) rfl rfl rfl rfl (by decide) rfl rfl rfl (Nat.le_of_ble_eq_true rfl) (Nat.zero_le _) (Nat.zero_le _) rfl dX7_signs_7 rfl rfl ?_
  refine x_aload_n (pc' := 11) C dX7_signs_10 rfl rfl rfl ?_
  refine x_iload_n (pc' := 12) C dX7_signs_11 rfl rfl rfl ?_
  obtain ⟨hn5, hok⟩ := hok
  obtain ⟨z6, ez6⟩ : ∃ z, z = (f_X7_sign z4 a3) := ⟨_, rfl⟩
  replace hRES := bd hRES z6 ez6
  replace hok := bdP hok z6 ez6
  have hc := c_X7_sign (kl k) (kg k) h ad z4 a3 hn5
  rw [← ez6] at hc
  refine x_WV (st := []) (st2 := []) (pc' := 15) C B hc cw_X7_135 ok_X7_sign rfl (by decide) 0 rfl rfl [0, 1, 2, 3, 4, 5, 6] [] [0, 1, 2, 3, 4, 5, 6] (wMo (kg k) h ad z6) rfl rfl rfl rfl (by decide) rfl rfl rfl (Nat.le_of_ble_eq_true rfl) (Nat.zero_le _) (Nat.zero_le _) rfl dX7_signs_12 rfl rfl ?_
  exact x_vret C (Nat.zero_le _) (Nat.zero_le _) dX7_signs_15 ⟨rfl, by rw [hRES]⟩

def k_X7_number_148 (S_148 : CS) (x2_148 : Int32) : Int32 × CS := (x2_148, S_148)
def ok_X7_number_148 (S_148 : CS) (x2_148 : Int32) : Prop := True
def l_X7_number_81 (a1 : Int32) : Nat → CS → Int32 → Int32 × CS
  | 0, _, _ => (0, dfCS)
  | n81 + 1, S_81, x2_81 => (if 0 < x2_81 then (if (f_X7_isNext S_81 48 57) = true then (if a1 < (((10 * x2_81) + ((S_81.2 6) (S_81.1 13).toNatClampNeg)) - 48) then (k_X7_number_148 S_81 x2_81) else (bind1 (setI S_81 13 (S_81.1 13 + 1)) (fun z22 => (l_X7_number_81 a1 n81 z22 (((10 * x2_81) + ((S_81.2 6) (S_81.1 13).toNatClampNeg)) - 48))))) else (k_X7_number_148 S_81 x2_81)) else (k_X7_number_148 S_81 x2_81))
def ol_X7_number_81 (a1 : Int32) : Nat → CS → Int32 → Prop
  | 0, _, _ => False
  | n81 + 1, S_81, x2_81 => ((0 < x2_81 → ((o_X7_isNext S_81 48 57) ∧ (((f_X7_isNext S_81 48 57) = true → (vp_in (S_81.1 13) 80 ∧ ((a1 < (((10 * x2_81) + ((S_81.2 6) (S_81.1 13).toNatClampNeg)) - 48) → (ok_X7_number_148 S_81 x2_81)) ∧ (¬ (a1 < (((10 * x2_81) + ((S_81.2 6) (S_81.1 13).toNatClampNeg)) - 48)) → (vp_in (S_81.1 13) 80 ∧ (bind1 (setI S_81 13 (S_81.1 13 + 1)) (fun z22 => (ol_X7_number_81 a1 n81 z22 (((10 * x2_81) + ((S_81.2 6) (S_81.1 13).toNatClampNeg)) - 48))))))))) ∧ (¬ (f_X7_isNext S_81 48 57) = true → (ok_X7_number_148 S_81 x2_81))))) ∧ (¬ (0 < x2_81) → (ok_X7_number_148 S_81 x2_81)))
def f_X7_number (S : CS) (a1 : Int32) : Int32 × CS := (bind1 (f_X7_sign S 32) (fun z2 => (if z2.1 14 = 0 then (if (f_X7_isNext z2 48 57) = true then (if a1 < (((z2.2 6) (z2.1 13).toNatClampNeg) - 48) then (bind1 (setI z2 14 1) (fun z23 => (0, z23))) else (bind1 (setI z2 14 0) (fun z12 => (bind1 (setI z12 13 (z12.1 13 + 1)) (fun z15 => (l_X7_number_81 a1 81 z15 (((z12.2 6) (z12.1 13).toNatClampNeg) - 48))))))) else (bind1 (setI z2 14 1) (fun z8 => (0, z8)))) else (bind1 (setI z2 14 1) (fun z4 => (0, z4))))))
def o_X7_number (S : CS) (a1 : Int32) : Prop := ((o_X7_sign S 32) ∧ (bind1 (f_X7_sign S 32) (fun z2 => ((z2.1 14 = 0 → ((o_X7_isNext z2 48 57) ∧ (((f_X7_isNext z2 48 57) = true → (vp_in (z2.1 13) 80 ∧ ((a1 < (((z2.2 6) (z2.1 13).toNatClampNeg) - 48) → (bind1 (setI z2 14 1) (fun z23 => True))) ∧ (¬ (a1 < (((z2.2 6) (z2.1 13).toNatClampNeg) - 48)) → (bind1 (setI z2 14 0) (fun z12 => (vp_in (z12.1 13) 80 ∧ (bind1 (setI z12 13 (z12.1 13 + 1)) (fun z15 => (ol_X7_number_81 a1 81 z15 (((z12.2 6) (z12.1 13).toNatClampNeg) - 48))))))))))) ∧ (¬ (f_X7_isNext z2 48 57) = true → (bind1 (setI z2 14 1) (fun z8 => True)))))) ∧ (¬ (z2.1 14 = 0) → (bind1 (setI z2 14 1) (fun z4 => True)))))))
set_option maxRecDepth 100000 in
set_option maxHeartbeats 8000000 in
theorem c_X7_number (l : Launch) (g : GT) (h : Nat) (ad : Nat → Nat) (S : CS) (a1 : Int32) (hok : o_X7_number S a1) : CW l yX7_number (.code yX7_number cX7_number 3 (some .int)) 2 g [.ref h, .int a1] (wMo g h ad S) (some (.int (f_X7_number S a1).1)) (wMo g h ad (f_X7_number S a1).2) := by
  obtain ⟨RES, hRES⟩ : ∃ z, z = (f_X7_number S a1) := ⟨_, rfl⟩
  rw [← hRES]
  unfold f_X7_number at hRES
  unfold o_X7_number at hok
  refine CWx.of (nL := 3) (ret := (some .int)) (own := RX7) (cc := cX7_number) rfl (by decide) rfl (List.forall_mem_cons.mpr ⟨rfl, (List.forall_mem_cons.mpr ⟨rfl, (fun _ h => absurd h List.not_mem_nil)⟩)⟩) (Nat.le_of_ble_eq_true rfl) ?_
  intro k C B hin hkl hkg
  subst hkl; subst hkg
  refine x_loc2 (L' := [some (.ref h), some (.int a1), none]) rfl ?_
  refine x_aload_n (pc' := 1) C dX7_number_0 rfl rfl rfl ?_
  refine x_bipush (v := 32) (pc' := 3) C dX7_number_1 rfl (by decide) ?_
  obtain ⟨hn1, hok⟩ := hok
  obtain ⟨z2, ez2⟩ : ∃ z, z = (f_X7_sign S 32) := ⟨_, rfl⟩
  replace hRES := bd hRES z2 ez2
  replace hok := bdP hok z2 ez2
  have hc := c_X7_sign (kl k) (kg k) h ad S 32 hn1
  rw [← ez2] at hc
  refine x_WV (st := []) (st2 := []) (pc' := 6) C B hc cw_X7_135 ok_X7_sign rfl (by decide) 0 rfl rfl [0, 1, 2, 3, 4, 5, 6] [] [0, 1, 2, 3, 4, 5, 6] (wMo (kg k) h ad z2) rfl rfl rfl rfl (by decide) rfl rfl rfl (Nat.le_of_ble_eq_true rfl) (Nat.zero_le _) (Nat.zero_le _) rfl dX7_number_3 rfl rfl ?_
  refine x_aload_n (pc' := 7) C dX7_number_6 rfl rfl rfl ?_
  refine x_aload_n (pc' := 8) C dX7_number_7 rfl rfl rfl ?_
  refine x_get (pc' := 11) (v := .int (z2.1 14)) C 0 14 inBX7 rfl rfl (by decide) fl_X7_128 rfl rfl dX7_number_8 rfl ?_
  refine x_if_ne (tgt := 41) (pc' := 14) C dX7_number_11 (by decide) rfl (fun c3 => ?_) (fun c3 => ?_)
  · rw [if_neg c3] at hRES
    replace hok := hok.2 c3
    refine x_iconst (v := 1) (pc' := 42) C dX7_number_41 rfl (by decide) ?_
    refine x_goto (tgt := 46) C dX7_number_42 (by decide) ?_
    obtain ⟨z4, ez4⟩ : ∃ z, z = (setI z2 14 1) := ⟨_, rfl⟩
    replace hRES := bd hRES z4 ez4
    replace hok := bdP hok z4 ez4
    refine x_put (pc' := 49) (w' := wMo (kg k) h ad z4) (ty := .boolean) C B 0 14 inBX7 tyX7 tyX7_ok nmX7 rfl rfl (by decide) fl_X7_128 rfl rfl rfl rfl rfl (Nat.le_of_ble_eq_true rfl) dX7_number_46 rfl (by rw [ez4]; rfl) ?_
    refine x_aload_n (pc' := 50) C dX7_number_49 rfl rfl rfl ?_
    refine x_get (pc' := 53) (v := .int (z4.1 14)) C 0 14 inBX7 rfl rfl (by decide) fl_X7_128 rfl rfl dX7_number_50 rfl ?_
    refine x_cv (y := 1) (by rw [ez4]; rfl) ?_
    refine x_if_eq (tgt := 58) (pc' := 56) C dX7_number_53 (by decide) rfl (fun c5 => absurd c5 (by decide)) (fun c5 => ?_)
    refine x_iconst (v := 0) (pc' := 57) C dX7_number_56 rfl (by decide) ?_
    exact x_iret C (Nat.zero_le _) (Nat.zero_le _) dX7_number_57 ⟨by rw [hRES], by rw [hRES]⟩
  · rw [if_pos c3] at hRES
    replace hok := hok.1 c3
    refine x_aload_n (pc' := 15) C dX7_number_14 rfl rfl rfl ?_
    refine x_bipush (v := 48) (pc' := 17) C dX7_number_15 rfl (by decide) ?_
    refine x_bipush (v := 57) (pc' := 19) C dX7_number_17 rfl (by decide) ?_
    obtain ⟨hn6, hok⟩ := hok
    refine x_RV (st := [.ref h]) (st2 := [.int (bI (f_X7_isNext z2 48 57)), .ref h]) (pc' := 22) C (c_X7_isNext (kl k) (kg k) h ad z2 48 57 hn6) cw_X7_138 ok_X7_isNext rfl (by decide) 0 rfl rfl [0, 1, 2, 3, 4, 5, 6] rfl rfl rfl (Nat.le_of_ble_eq_true rfl) (Nat.zero_le _) (Nat.zero_le _) rfl dX7_number_19 rfl rfl ?_
    refine x_ifB_eq (tgt := 41) (pc' := 25) C dX7_number_22 (by decide) rfl (fun c7 => ?_) (fun c7 => ?_)
    · rw [if_neg c7] at hRES
      replace hok := hok.2 c7
      refine x_iconst (v := 1) (pc' := 42) C dX7_number_41 rfl (by decide) ?_
      refine x_goto (tgt := 46) C dX7_number_42 (by decide) ?_
      obtain ⟨z8, ez8⟩ : ∃ z, z = (setI z2 14 1) := ⟨_, rfl⟩
      replace hRES := bd hRES z8 ez8
      replace hok := bdP hok z8 ez8
      refine x_put (pc' := 49) (w' := wMo (kg k) h ad z8) (ty := .boolean) C B 0 14 inBX7 tyX7 tyX7_ok nmX7 rfl rfl (by decide) fl_X7_128 rfl rfl rfl rfl rfl (Nat.le_of_ble_eq_true rfl) dX7_number_46 rfl (by rw [ez8]; rfl) ?_
      refine x_aload_n (pc' := 50) C dX7_number_49 rfl rfl rfl ?_
      refine x_get (pc' := 53) (v := .int (z8.1 14)) C 0 14 inBX7 rfl rfl (by decide) fl_X7_128 rfl rfl dX7_number_50 rfl ?_
      refine x_cv (y := 1) (by rw [ez8]; rfl) ?_
      refine x_if_eq (tgt := 58) (pc' := 56) C dX7_number_53 (by decide) rfl (fun c9 => absurd c9 (by decide)) (fun c9 => ?_)
      refine x_iconst (v := 0) (pc' := 57) C dX7_number_56 rfl (by decide) ?_
      exact x_iret C (Nat.zero_le _) (Nat.zero_le _) dX7_number_57 ⟨by rw [hRES], by rw [hRES]⟩
    · rw [if_pos c7] at hRES
      replace hok := hok.1 c7
      refine x_aload_n (pc' := 26) C dX7_number_25 rfl rfl rfl ?_
      refine x_get (pc' := 29) (v := .ref (ad 6)) C 0 6 inBX7 rfl rfl (by decide) fl_X7_22 rfl rfl dX7_number_26 rfl ?_
      refine x_aload_n (pc' := 30) C dX7_number_29 rfl rfl rfl ?_
      refine x_get (pc' := 33) (v := .int (z2.1 13)) C 0 13 inBX7 rfl rfl (by decide) fl_X7_132 rfl rfl dX7_number_30 rfl ?_
      obtain ⟨hn10, hok⟩ := hok
      refine x_iald (pc' := 34) (f := z2.2 6) (v := ((z2.2 6) (z2.1 13).toNatClampNeg)) C 5 rfl hn10 rfl dX7_number_33 rfl ?_
      refine x_bipush (v := 48) (pc' := 36) C dX7_number_34 rfl (by decide) ?_
      refine x_isub (pc' := 37) (v := (((z2.2 6) (z2.1 13).toNatClampNeg) - 48)) C dX7_number_36 rfl rfl ?_
      refine x_iload_n (pc' := 38) C dX7_number_37 rfl rfl rfl ?_
      refine x_icmp_le (tgt := 45) (pc' := 41) C dX7_number_38 (by decide) rfl (fun c11 => ?_) (fun c11 => ?_)
      · rw [if_neg c11] at hRES
        replace hok := hok.2 c11
        refine x_iconst (v := 0) (pc' := 46) C dX7_number_45 rfl (by decide) ?_
        obtain ⟨z12, ez12⟩ : ∃ z, z = (setI z2 14 0) := ⟨_, rfl⟩
        replace hRES := bd hRES z12 ez12
        replace hok := bdP hok z12 ez12
        refine x_put (pc' := 49) (w' := wMo (kg k) h ad z12) (ty := .boolean) C B 0 14 inBX7 tyX7 tyX7_ok nmX7 rfl rfl (by decide) fl_X7_128 rfl rfl rfl rfl rfl (Nat.le_of_ble_eq_true rfl) dX7_number_46 rfl (by rw [ez12]; rfl) ?_
        refine x_aload_n (pc' := 50) C dX7_number_49 rfl rfl rfl ?_
        refine x_get (pc' := 53) (v := .int (z12.1 14)) C 0 14 inBX7 rfl rfl (by decide) fl_X7_128 rfl rfl dX7_number_50 rfl ?_
        refine x_cv (y := 0) (by rw [ez12]; rfl) ?_
        refine x_if_eq (tgt := 58) (pc' := 56) C dX7_number_53 (by decide) rfl (fun c13 => ?_) (fun c13 => absurd c13 (by decide))
        refine x_aload_n (pc' := 59) C dX7_number_58 rfl rfl rfl ?_
        refine x_get (pc' := 62) (v := .ref (ad 6)) C 0 6 inBX7 rfl rfl (by decide) fl_X7_22 rfl rfl dX7_number_59 rfl ?_
        refine x_aload_n (pc' := 63) C dX7_number_62 rfl rfl rfl ?_
        refine x_get (pc' := 66) (v := .int (z12.1 13)) C 0 13 inBX7 rfl rfl (by decide) fl_X7_132 rfl rfl dX7_number_63 rfl ?_
        obtain ⟨hn14, hok⟩ := hok
        refine x_iald (pc' := 67) (f := z12.2 6) (v := ((z12.2 6) (z12.1 13).toNatClampNeg)) C 5 rfl hn14 rfl dX7_number_66 rfl ?_
        refine x_bipush (v := 48) (pc' := 69) C dX7_number_67 rfl (by decide) ?_
        refine x_isub (pc' := 70) (v := (((z12.2 6) (z12.1 13).toNatClampNeg) - 48)) C dX7_number_69 rfl rfl ?_
        refine x_istore_n (pc' := 71) (L' := [some (.ref h), some (.int a1), some (.int (((z12.2 6) (z12.1 13).toNatClampNeg) - 48))]) C dX7_number_70 rfl rfl (Nat.le_of_ble_eq_true rfl) rfl ?_
        refine x_aload_n (pc' := 72) C dX7_number_71 rfl rfl rfl ?_
        refine x_dup (pc' := 73) C dX7_number_72 rfl rfl ?_
        refine x_get (pc' := 76) (v := .int (z12.1 13)) C 0 13 inBX7 rfl rfl (by decide) fl_X7_132 rfl rfl dX7_number_73 rfl ?_
        refine x_iconst (v := 1) (pc' := 77) C dX7_number_76 rfl (by decide) ?_
        refine x_iadd (pc' := 78) (v := (z12.1 13 + 1)) C dX7_number_77 rfl rfl ?_
        obtain ⟨z15, ez15⟩ : ∃ z, z = (setI z12 13 (z12.1 13 + 1)) := ⟨_, rfl⟩
        replace hRES := bd hRES z15 ez15
        replace hok := bdP hok z15 ez15
        refine x_put (pc' := 81) (w' := wMo (kg k) h ad z15) (ty := .int) C B 0 13 inBX7 tyX7 tyX7_ok nmX7 rfl rfl (by decide) fl_X7_132 rfl rfl rfl rfl rfl (Nat.le_of_ble_eq_true rfl) dX7_number_78 rfl (by rw [ez15]; rfl) ?_
        have cont148 : ∀ (S_148 : CS) (x2_148 : Int32), RES = k_X7_number_148 S_148 x2_148 → ok_X7_number_148 S_148 x2_148 → X k 0 0 (wMo (kg k) h ad S_148) 148 [none, none, some (.int x2_148)] [] := by
          intro S_148 x2_148 hRES hok
          unfold k_X7_number_148 at hRES
          unfold ok_X7_number_148 at hok
          refine x_iload_n (pc' := 149) C dX7_number_148 rfl rfl rfl ?_
          exact x_iret C (Nat.zero_le _) (Nat.zero_le _) dX7_number_149 ⟨by rw [hRES], by rw [hRES]⟩
        have loop81 : ∀ (n81 : Nat) (S_81 : CS) (x2_81 : Int32), RES = l_X7_number_81 a1 n81 S_81 x2_81 → ol_X7_number_81 a1 n81 S_81 x2_81 → X k 0 0 (wMo (kg k) h ad S_81) 81 [some (.ref h), some (.int a1), some (.int x2_81)] [] := by
          intro n81
          induction n81 with
          | zero =>
            intro S_81 x2_81 hRES hok
            exact (show False from hok).elim
          | succ n81 ih81 =>
            intro S_81 x2_81 hRES hok
            rw [l_X7_number_81] at hRES
            rw [ol_X7_number_81] at hok
            refine x_iload_n (pc' := 82) C dX7_number_81 rfl rfl rfl ?_
            refine x_if_le (tgt := 148) (pc' := 85) C dX7_number_82 (by decide) rfl (fun c16 => ?_) (fun c16 => ?_)
            · rw [if_neg c16] at hRES
              replace hok := hok.2 c16
              refine x_forget (L' := [none, none, some (.int x2_81)]) [2] rfl rfl ?_
              exact cont148 S_81 x2_81 hRES hok
            · rw [if_pos c16] at hRES
              replace hok := hok.1 c16
              refine x_aload_n (pc' := 86) C dX7_number_85 rfl rfl rfl ?_
              refine x_bipush (v := 48) (pc' := 88) C dX7_number_86 rfl (by decide) ?_
              refine x_bipush (v := 57) (pc' := 90) C dX7_number_88 rfl (by decide) ?_
              obtain ⟨hn17, hok⟩ := hok
              refine x_RV (st := []) (st2 := [.int (bI (f_X7_isNext S_81 48 57))]) (pc' := 93) C (c_X7_isNext (kl k) (kg k) h ad S_81 48 57 hn17) cw_X7_138 ok_X7_isNext rfl (by decide) 0 rfl rfl [0, 1, 2, 3, 4, 5, 6] rfl rfl rfl (Nat.le_of_ble_eq_true rfl) (Nat.zero_le _) (Nat.zero_le _) rfl dX7_number_90 rfl rfl ?_
              refine x_ifB_eq (tgt := 148) (pc' := 96) C dX7_number_93 (by decide) rfl (fun c18 => ?_) (fun c18 => ?_)
              · rw [if_neg c18] at hRES
                replace hok := hok.2 c18
                refine x_forget (L' := [none, none, some (.int x2_81)]) [2] rfl rfl ?_
                exact cont148 S_81 x2_81 hRES hok
              · rw [if_pos c18] at hRES
                replace hok := hok.1 c18
                refine x_bipush (v := 10) (pc' := 98) C dX7_number_96 rfl (by decide) ?_
                refine x_iload_n (pc' := 99) C dX7_number_98 rfl rfl rfl ?_
                refine x_imul (pc' := 100) (v := (10 * x2_81)) C dX7_number_99 rfl rfl ?_
                refine x_aload_n (pc' := 101) C dX7_number_100 rfl rfl rfl ?_
                refine x_get (pc' := 104) (v := .ref (ad 6)) C 0 6 inBX7 rfl rfl (by decide) fl_X7_22 rfl rfl dX7_number_101 rfl ?_
                refine x_aload_n (pc' := 105) C dX7_number_104 rfl rfl rfl ?_
                refine x_get (pc' := 108) (v := .int (S_81.1 13)) C 0 13 inBX7 rfl rfl (by decide) fl_X7_132 rfl rfl dX7_number_105 rfl ?_
                obtain ⟨hn19, hok⟩ := hok
                refine x_iald (pc' := 109) (f := S_81.2 6) (v := ((S_81.2 6) (S_81.1 13).toNatClampNeg)) C 5 rfl hn19 rfl dX7_number_108 rfl ?_
                refine x_iadd (pc' := 110) (v := ((10 * x2_81) + ((S_81.2 6) (S_81.1 13).toNatClampNeg))) C dX7_number_109 rfl rfl ?_
                refine x_bipush (v := 48) (pc' := 112) C dX7_number_110 rfl (by decide) ?_
                refine x_isub (pc' := 113) (v := (((10 * x2_81) + ((S_81.2 6) (S_81.1 13).toNatClampNeg)) - 48)) C dX7_number_112 rfl rfl ?_
                refine x_iload_n (pc' := 114) C dX7_number_113 rfl rfl rfl ?_
                refine x_icmp_gt (tgt := 148) (pc' := 117) C dX7_number_114 (by decide) rfl (fun c20 => ?_) (fun c20 => ?_)
                · rw [if_pos c20] at hRES
                  replace hok := hok.1 c20
                  refine x_forget (L' := [none, none, some (.int x2_81)]) [2] rfl rfl ?_
                  exact cont148 S_81 x2_81 hRES hok
                · rw [if_neg c20] at hRES
                  replace hok := hok.2 c20
                  refine x_bipush (v := 10) (pc' := 119) C dX7_number_117 rfl (by decide) ?_
                  refine x_iload_n (pc' := 120) C dX7_number_119 rfl rfl rfl ?_
                  refine x_imul (pc' := 121) (v := (10 * x2_81)) C dX7_number_120 rfl rfl ?_
                  refine x_aload_n (pc' := 122) C dX7_number_121 rfl rfl rfl ?_
                  refine x_get (pc' := 125) (v := .ref (ad 6)) C 0 6 inBX7 rfl rfl (by decide) fl_X7_22 rfl rfl dX7_number_122 rfl ?_
                  refine x_aload_n (pc' := 126) C dX7_number_125 rfl rfl rfl ?_
                  refine x_get (pc' := 129) (v := .int (S_81.1 13)) C 0 13 inBX7 rfl rfl (by decide) fl_X7_132 rfl rfl dX7_number_126 rfl ?_
                  obtain ⟨hn21, hok⟩ := hok
                  refine x_iald (pc' := 130) (f := S_81.2 6) (v := ((S_81.2 6) (S_81.1 13).toNatClampNeg)) C 5 rfl hn21 rfl dX7_number_129 rfl ?_
                  refine x_iadd (pc' := 131) (v := ((10 * x2_81) + ((S_81.2 6) (S_81.1 13).toNatClampNeg))) C dX7_number_130 rfl rfl ?_
                  refine x_bipush (v := 48) (pc' := 133) C dX7_number_131 rfl (by decide) ?_
                  refine x_isub (pc' := 134) (v := (((10 * x2_81) + ((S_81.2 6) (S_81.1 13).toNatClampNeg)) - 48)) C dX7_number_133 rfl rfl ?_
                  refine x_istore_n (pc' := 135) (L' := [some (.ref h), some (.int a1), some (.int (((10 * x2_81) + ((S_81.2 6) (S_81.1 13).toNatClampNeg)) - 48))]) C dX7_number_134 rfl rfl (Nat.le_of_ble_eq_true rfl) rfl ?_
                  refine x_aload_n (pc' := 136) C dX7_number_135 rfl rfl rfl ?_
                  refine x_dup (pc' := 137) C dX7_number_136 rfl rfl ?_
                  refine x_get (pc' := 140) (v := .int (S_81.1 13)) C 0 13 inBX7 rfl rfl (by decide) fl_X7_132 rfl rfl dX7_number_137 rfl ?_
                  refine x_iconst (v := 1) (pc' := 141) C dX7_number_140 rfl (by decide) ?_
                  refine x_iadd (pc' := 142) (v := (S_81.1 13 + 1)) C dX7_number_141 rfl rfl ?_
                  obtain ⟨z22, ez22⟩ : ∃ z, z = (setI S_81 13 (S_81.1 13 + 1)) := ⟨_, rfl⟩
                  replace hRES := bd hRES z22 ez22
                  replace hok := bdP hok z22 ez22
                  refine x_put (pc' := 145) (w' := wMo (kg k) h ad z22) (ty := .int) C B 0 13 inBX7 tyX7 tyX7_ok nmX7 rfl rfl (by decide) fl_X7_132 rfl rfl rfl rfl rfl (Nat.le_of_ble_eq_true rfl) dX7_number_142 rfl (by rw [ez22]; rfl) ?_
                  refine x_goto (tgt := 81) C dX7_number_145 (by decide) ?_
                  exact ih81 z22 (((10 * x2_81) + ((S_81.2 6) (S_81.1 13).toNatClampNeg)) - 48) hRES hok
        exact loop81 81 z15 (((z12.2 6) (z12.1 13).toNatClampNeg) - 48) hRES hok
      · rw [if_pos c11] at hRES
        replace hok := hok.1 c11
        refine x_iconst (v := 1) (pc' := 42) C dX7_number_41 rfl (by decide) ?_
        refine x_goto (tgt := 46) C dX7_number_42 (by decide) ?_
        obtain ⟨z23, ez23⟩ : ∃ z, z = (setI z2 14 1) := ⟨_, rfl⟩
        replace hRES := bd hRES z23 ez23
        replace hok := bdP hok z23 ez23
        refine x_put (pc' := 49) (w' := wMo (kg k) h ad z23) (ty := .boolean) C B 0 14 inBX7 tyX7 tyX7_ok nmX7 rfl rfl (by decide) fl_X7_128 rfl rfl rfl rfl rfl (Nat.le_of_ble_eq_true rfl) dX7_number_46 rfl (by rw [ez23]; rfl) ?_
        refine x_aload_n (pc' := 50) C dX7_number_49 rfl rfl rfl ?_
        refine x_get (pc' := 53) (v := .int (z23.1 14)) C 0 14 inBX7 rfl rfl (by decide) fl_X7_128 rfl rfl dX7_number_50 rfl ?_
        refine x_cv (y := 1) (by rw [ez23]; rfl) ?_
        refine x_if_eq (tgt := 58) (pc' := 56) C dX7_number_53 (by decide) rfl (fun c24 => absurd c24 (by decide)) (fun c24 => ?_)
        refine x_iconst (v := 0) (pc' := 57) C dX7_number_56 rfl (by decide) ?_
        exact x_iret C (Nat.zero_le _) (Nat.zero_le _) dX7_number_57 ⟨by rw [hRES], by rw [hRES]⟩

def k_X7_cells_82 (S_82 : CS) (x1_82 : Int32) : Int32 × CS := (x1_82, S_82)
def ok_X7_cells_82 (S_82 : CS) (x1_82 : Int32) : Prop := True
def l_X7_cells_38 : Nat → CS → Int32 → Int32 → Int32 × CS
  | 0, _, _, _ => (0, dfCS)
  | n38 + 1, S_38, x1_38, x2_38 => (if (f_X7_isNext S_38 (x2_38 + 1) 55) = true then (bind1 (setI S_38 13 (S_38.1 13 + 1)) (fun z8 => (l_X7_cells_38 n38 z8 (x1_38 ||| (1 <<< ((((S_38.2 6) (S_38.1 13).toNatClampNeg) - 48) &&& 31))) ((S_38.2 6) (S_38.1 13).toNatClampNeg)))) else (k_X7_cells_82 S_38 x1_38))
def ol_X7_cells_38 : Nat → CS → Int32 → Int32 → Prop
  | 0, _, _, _ => False
  | n38 + 1, S_38, x1_38, x2_38 => ((o_X7_isNext S_38 (x2_38 + 1) 55) ∧ (((f_X7_isNext S_38 (x2_38 + 1) 55) = true → (vp_in (S_38.1 13) 80 ∧ (bind1 (setI S_38 13 (S_38.1 13 + 1)) (fun z8 => (ol_X7_cells_38 n38 z8 (x1_38 ||| (1 <<< ((((S_38.2 6) (S_38.1 13).toNatClampNeg) - 48) &&& 31))) ((S_38.2 6) (S_38.1 13).toNatClampNeg)))))) ∧ (¬ (f_X7_isNext S_38 (x2_38 + 1) 55) = true → (ok_X7_cells_82 S_38 x1_38))))
def k_X7_cells_82b (S_82b : CS) (x1_82b : Int32) : Int32 × CS := (x1_82b, S_82b)
def ok_X7_cells_82b (S_82b : CS) (x1_82b : Int32) : Prop := True
def l_X7_cells_38b : Nat → CS → Int32 → Int32 → Int32 × CS
  | 0, _, _, _ => (0, dfCS)
  | n38b + 1, S_38b, x1_38b, x2_38b => (if (f_X7_isNext S_38b (x2_38b + 1) 55) = true then (bind1 (setI S_38b 13 (S_38b.1 13 + 1)) (fun z15 => (l_X7_cells_38b n38b z15 (x1_38b ||| (1 <<< ((((S_38b.2 6) (S_38b.1 13).toNatClampNeg) - 48) &&& 31))) ((S_38b.2 6) (S_38b.1 13).toNatClampNeg)))) else (k_X7_cells_82b S_38b x1_38b))
def ol_X7_cells_38b : Nat → CS → Int32 → Int32 → Prop
  | 0, _, _, _ => False
  | n38b + 1, S_38b, x1_38b, x2_38b => ((o_X7_isNext S_38b (x2_38b + 1) 55) ∧ (((f_X7_isNext S_38b (x2_38b + 1) 55) = true → (vp_in (S_38b.1 13) 80 ∧ (bind1 (setI S_38b 13 (S_38b.1 13 + 1)) (fun z15 => (ol_X7_cells_38b n38b z15 (x1_38b ||| (1 <<< ((((S_38b.2 6) (S_38b.1 13).toNatClampNeg) - 48) &&& 31))) ((S_38b.2 6) (S_38b.1 13).toNatClampNeg)))))) ∧ (¬ (f_X7_isNext S_38b (x2_38b + 1) 55) = true → (ok_X7_cells_82b S_38b x1_38b))))
def k_X7_cells_82c (S_82c : CS) (x1_82c : Int32) : Int32 × CS := (x1_82c, S_82c)
def ok_X7_cells_82c (S_82c : CS) (x1_82c : Int32) : Prop := True
def l_X7_cells_38c : Nat → CS → Int32 → Int32 → Int32 × CS
  | 0, _, _, _ => (0, dfCS)
  | n38c + 1, S_38c, x1_38c, x2_38c => (if (f_X7_isNext S_38c (x2_38c + 1) 55) = true then (bind1 (setI S_38c 13 (S_38c.1 13 + 1)) (fun z20 => (l_X7_cells_38c n38c z20 (x1_38c ||| (1 <<< ((((S_38c.2 6) (S_38c.1 13).toNatClampNeg) - 48) &&& 31))) ((S_38c.2 6) (S_38c.1 13).toNatClampNeg)))) else (k_X7_cells_82c S_38c x1_38c))
def ol_X7_cells_38c : Nat → CS → Int32 → Int32 → Prop
  | 0, _, _, _ => False
  | n38c + 1, S_38c, x1_38c, x2_38c => ((o_X7_isNext S_38c (x2_38c + 1) 55) ∧ (((f_X7_isNext S_38c (x2_38c + 1) 55) = true → (vp_in (S_38c.1 13) 80 ∧ (bind1 (setI S_38c 13 (S_38c.1 13 + 1)) (fun z20 => (ol_X7_cells_38c n38c z20 (x1_38c ||| (1 <<< ((((S_38c.2 6) (S_38c.1 13).toNatClampNeg) - 48) &&& 31))) ((S_38c.2 6) (S_38c.1 13).toNatClampNeg)))))) ∧ (¬ (f_X7_isNext S_38c (x2_38c + 1) 55) = true → (ok_X7_cells_82c S_38c x1_38c))))
def f_X7_cells (S : CS) : Int32 × CS := (bind1 (f_X7_sign S 32) (fun z2 => (if z2.1 14 = 0 then (if (f_X7_isNext z2 48 55) = true then (bind1 (setI z2 14 0) (fun z11 => (l_X7_cells_38b 10 z11 0 47))) else (bind1 (setI z2 14 1) (fun z16 => (l_X7_cells_38c 10 z16 0 47)))) else (bind1 (setI z2 14 1) (fun z4 => (l_X7_cells_38 10 z4 0 47))))))
def o_X7_cells (S : CS) : Prop := ((o_X7_sign S 32) ∧ (bind1 (f_X7_sign S 32) (fun z2 => ((z2.1 14 = 0 → ((o_X7_isNext z2 48 55) ∧ (((f_X7_isNext z2 48 55) = true → (bind1 (setI z2 14 0) (fun z11 => (ol_X7_cells_38b 10 z11 0 47)))) ∧ (¬ (f_X7_isNext z2 48 55) = true → (bind1 (setI z2 14 1) (fun z16 => (ol_X7_cells_38c 10 z16 0 47))))))) ∧ (¬ (z2.1 14 = 0) → (bind1 (setI z2 14 1) (fun z4 => (ol_X7_cells_38 10 z4 0 47))))))))
set_option maxRecDepth 100000 in
set_option maxHeartbeats 8000000 in
theorem c_X7_cells (l : Launch) (g : GT) (h : Nat) (ad : Nat → Nat) (S : CS) (hok : o_X7_cells S) : CW l yX7_cells (.code yX7_cells cX7_cells 3 (some .int)) 2 g [.ref h] (wMo g h ad S) (some (.int (f_X7_cells S).1)) (wMo g h ad (f_X7_cells S).2) := by
  obtain ⟨RES, hRES⟩ : ∃ z, z = (f_X7_cells S) := ⟨_, rfl⟩
  rw [← hRES]
  unfold f_X7_cells at hRES
  unfold o_X7_cells at hok
  refine CWx.of (nL := 3) (ret := (some .int)) (own := RX7) (cc := cX7_cells) rfl (by decide) rfl (List.forall_mem_cons.mpr ⟨rfl, (fun _ h => absurd h List.not_mem_nil)⟩) (Nat.le_of_ble_eq_true rfl) ?_
  intro k C B hin hkl hkg
  subst hkl; subst hkg
  refine x_loc2 (L' := [some (.ref h), none, none]) rfl ?_
  refine x_aload_n (pc' := 1) C dX7_cells_0 rfl rfl rfl ?_
  refine x_bipush (v := 32) (pc' := 3) C dX7_cells_1 rfl (by decide) ?_
  obtain ⟨hn1, hok⟩ := hok
  obtain ⟨z2, ez2⟩ : ∃ z, z = (f_X7_sign S 32) := ⟨_, rfl⟩
  replace hRES := bd hRES z2 ez2
  replace hok := bdP hok z2 ez2
  have hc := c_X7_sign (kl k) (kg k) h ad S 32 hn1
  rw [← ez2] at hc
  refine x_WV (st := []) (st2 := []) (pc' := 6) C B hc cw_X7_135 ok_X7_sign rfl (by decide) 0 rfl rfl [0, 1, 2, 3, 4, 5, 6] [] [0, 1, 2, 3, 4, 5, 6] (wMo (kg k) h ad z2) rfl rfl rfl rfl (by decide) rfl rfl rfl (Nat.le_of_ble_eq_true rfl) (Nat.zero_le _) (Nat.zero_le _) rfl dX7_cells_3 rfl rfl ?_
  refine x_iconst (v := 0) (pc' := 7) C dX7_cells_6 rfl (by decide) ?_
  refine x_istore_n (pc' := 8) (L' := [some (.ref h), some (.int 0), none]) C dX7_cells_7 rfl rfl (Nat.le_of_ble_eq_true rfl) rfl ?_
  refine x_bipush (v := 47) (pc' := 10) C dX7_cells_8 rfl (by decide) ?_
  refine x_istore_n (pc' := 11) (L' := [some (.ref h), some (.int 0), some (.int 47)]) C dX7_cells_10 rfl rfl (Nat.le_of_ble_eq_true rfl) rfl ?_
  refine x_aload_n (pc' := 12) C dX7_cells_11 rfl rfl rfl ?_
  refine x_aload_n (pc' := 13) C dX7_cells_12 rfl rfl rfl ?_
  refine x_get (pc' := 16) (v := .int (z2.1 14)) C 0 14 inBX7 rfl rfl (by decide) fl_X7_128 rfl rfl dX7_cells_13 rfl ?_
  refine x_if_ne (tgt := 30) (pc' := 19) C dX7_cells_16 (by decide) rfl (fun c3 => ?_) (fun c3 => ?_)
  · rw [if_neg c3] at hRES
    replace hok := hok.2 c3
    refine x_iconst (v := 1) (pc' := 31) C dX7_cells_30 rfl (by decide) ?_
    refine x_goto (tgt := 35) C dX7_cells_31 (by decide) ?_
    obtain ⟨z4, ez4⟩ : ∃ z, z = (setI z2 14 1) := ⟨_, rfl⟩
    replace hRES := bd hRES z4 ez4
    replace hok := bdP hok z4 ez4
    refine x_put (pc' := 38) (w' := wMo (kg k) h ad z4) (ty := .boolean) C B 0 14 inBX7 tyX7 tyX7_ok nmX7 rfl rfl (by decide) fl_X7_128 rfl rfl rfl rfl rfl (Nat.le_of_ble_eq_true rfl) dX7_cells_35 rfl (by rw [ez4]; rfl) ?_
    have cont82 : ∀ (S_82 : CS) (x1_82 : Int32), RES = k_X7_cells_82 S_82 x1_82 → ok_X7_cells_82 S_82 x1_82 → X k 0 0 (wMo (kg k) h ad S_82) 82 [none, some (.int x1_82), none] [] := by
      intro S_82 x1_82 hRES hok
      unfold k_X7_cells_82 at hRES
      unfold ok_X7_cells_82 at hok
      refine x_iload_n (pc' := 83) C dX7_cells_82 rfl rfl rfl ?_
      exact x_iret C (Nat.zero_le _) (Nat.zero_le _) dX7_cells_83 ⟨by rw [hRES], by rw [hRES]⟩
    have loop38 : ∀ (n38 : Nat) (S_38 : CS) (x1_38 : Int32) (x2_38 : Int32), RES = l_X7_cells_38 n38 S_38 x1_38 x2_38 → ol_X7_cells_38 n38 S_38 x1_38 x2_38 → X k 0 0 (wMo (kg k) h ad S_38) 38 [some (.ref h), some (.int x1_38), some (.int x2_38)] [] := by
      intro n38
      induction n38 with
      | zero =>
        intro S_38 x1_38 x2_38 hRES hok
        exact (show False from hok).elim
      | succ n38 ih38 =>
        intro S_38 x1_38 x2_38 hRES hok
        rw [l_X7_cells_38] at hRES
        rw [ol_X7_cells_38] at hok
        refine x_aload_n (pc' := 39) C dX7_cells_38 rfl rfl rfl ?_
        refine x_iload_n (pc' := 40) C dX7_cells_39 rfl rfl rfl ?_
        refine x_iconst (v := 1) (pc' := 41) C dX7_cells_40 rfl (by decide) ?_
        refine x_iadd (pc' := 42) (v := (x2_38 + 1)) C dX7_cells_41 rfl rfl ?_
        refine x_bipush (v := 55) (pc' := 44) C dX7_cells_42 rfl (by decide) ?_
        obtain ⟨hn5, hok⟩ := hok
        refine x_RV (st := []) (st2 := [.int (bI (f_X7_isNext S_38 (x2_38 + 1) 55))]) (pc' := 47) C (c_X7_isNext (kl k) (kg k) h ad S_38 (x2_38 + 1) 55 hn5) cw_X7_138 ok_X7_isNext rfl (by decide) 0 rfl rfl [0, 1, 2, 3, 4, 5, 6] rfl rfl rfl (Nat.le_of_ble_eq_true rfl) (Nat.zero_le _) (Nat.zero_le _) rfl dX7_cells_44 rfl rfl ?_
        refine x_ifB_eq (tgt := 82) (pc' := 50) C dX7_cells_47 (by decide) rfl (fun c6 => ?_) (fun c6 => ?_)
        · rw [if_neg c6] at hRES
          replace hok := hok.2 c6
          refine x_forget (L' := [none, some (.int x1_38), none]) [1] rfl rfl ?_
          exact cont82 S_38 x1_38 hRES hok
        · rw [if_pos c6] at hRES
          replace hok := hok.1 c6
          refine x_aload_n (pc' := 51) C dX7_cells_50 rfl rfl rfl ?_
          refine x_get (pc' := 54) (v := .ref (ad 6)) C 0 6 inBX7 rfl rfl (by decide) fl_X7_22 rfl rfl dX7_cells_51 rfl ?_
          refine x_aload_n (pc' := 55) C dX7_cells_54 rfl rfl rfl ?_
          refine x_get (pc' := 58) (v := .int (S_38.1 13)) C 0 13 inBX7 rfl rfl (by decide) fl_X7_132 rfl rfl dX7_cells_55 rfl ?_
          obtain ⟨hn7, hok⟩ := hok
          refine x_iald (pc' := 59) (f := S_38.2 6) (v := ((S_38.2 6) (S_38.1 13).toNatClampNeg)) C 5 rfl hn7 rfl dX7_cells_58 rfl ?_
          refine x_istore_n (pc' := 60) (L' := [some (.ref h), some (.int x1_38), some (.int ((S_38.2 6) (S_38.1 13).toNatClampNeg))]) C dX7_cells_59 rfl rfl (Nat.le_of_ble_eq_true rfl) rfl ?_
          refine x_iload_n (pc' := 61) C dX7_cells_60 rfl rfl rfl ?_
          refine x_iconst (v := 1) (pc' := 62) C dX7_cells_61 rfl (by decide) ?_
          refine x_iload_n (pc' := 63) C dX7_cells_62 rfl rfl rfl ?_
          refine x_bipush (v := 48) (pc' := 65) C dX7_cells_63 rfl (by decide) ?_
          refine x_isub (pc' := 66) (v := (((S_38.2 6) (S_38.1 13).toNatClampNeg) - 48)) C dX7_cells_65 rfl rfl ?_
          refine x_ishl (pc' := 67) (v := (1 <<< ((((S_38.2 6) (S_38.1 13).toNatClampNeg) - 48) &&& 31))) C dX7_cells_66 rfl rfl ?_
          refine x_ior (pc' := 68) (v := (x1_38 ||| (1 <<< ((((S_38.2 6) (S_38.1 13).toNatClampNeg) - 48) &&& 31)))) C dX7_cells_67 rfl rfl ?_
          refine x_istore_n (pc' := 69) (L' := [some (.ref h), some (.int (x1_38 ||| (1 <<< ((((S_38.2 6) (S_38.1 13).toNatClampNeg) - 48) &&& 31)))), some (.int ((S_38.2 6) (S_38.1 13).toNatClampNeg))]) C dX7_cells_68 rfl rfl (Nat.le_of_ble_eq_true rfl) rfl ?_
          refine x_aload_n (pc' := 70) C dX7_cells_69 rfl rfl rfl ?_
          refine x_dup (pc' := 71) C dX7_cells_70 rfl rfl ?_
          refine x_get (pc' := 74) (v := .int (S_38.1 13)) C 0 13 inBX7 rfl rfl (by decide) fl_X7_132 rfl rfl dX7_cells_71 rfl ?_
          refine x_iconst (v := 1) (pc' := 75) C dX7_cells_74 rfl (by decide) ?_
          refine x_iadd (pc' := 76) (v := (S_38.1 13 + 1)) C dX7_cells_75 rfl rfl ?_
          obtain ⟨z8, ez8⟩ : ∃ z, z = (setI S_38 13 (S_38.1 13 + 1)) := ⟨_, rfl⟩
          replace hRES := bd hRES z8 ez8
          replace hok := bdP hok z8 ez8
          refine x_put (pc' := 79) (w' := wMo (kg k) h ad z8) (ty := .int) C B 0 13 inBX7 tyX7 tyX7_ok nmX7 rfl rfl (by decide) fl_X7_132 rfl rfl rfl rfl rfl (Nat.le_of_ble_eq_true rfl) dX7_cells_76 rfl (by rw [ez8]; rfl) ?_
          refine x_goto (tgt := 38) C dX7_cells_79 (by decide) ?_
          exact ih38 z8 (x1_38 ||| (1 <<< ((((S_38.2 6) (S_38.1 13).toNatClampNeg) - 48) &&& 31))) ((S_38.2 6) (S_38.1 13).toNatClampNeg) hRES hok
    exact loop38 10 z4 0 47 hRES hok
  · rw [if_pos c3] at hRES
    replace hok := hok.1 c3
    refine x_aload_n (pc' := 20) C dX7_cells_19 rfl rfl rfl ?_
    refine x_bipush (v := 48) (pc' := 22) C dX7_cells_20 rfl (by decide) ?_
    refine x_bipush (v := 55) (pc' := 24) C dX7_cells_22 rfl (by decide) ?_
    obtain ⟨hn9, hok⟩ := hok
    refine x_RV (st := [.ref h]) (st2 := [.int (bI (f_X7_isNext z2 48 55)), .ref h]) (pc' := 27) C (c_X7_isNext (kl k) (kg k) h ad z2 48 55 hn9) cw_X7_138 ok_X7_isNext rfl (by decide) 0 rfl rfl [0, 1, 2, 3, 4, 5, 6] rfl rfl rfl (Nat.le_of_ble_eq_true rfl) (Nat.zero_le _) (Nat.zero_le _) rfl dX7_cells_24 rfl rfl ?_
    refine x_ifB_ne (tgt := 34) (pc' := 30) C dX7_cells_27 (by decide) rfl (fun c10 => ?_) (fun c10 => ?_)
    · rw [if_pos c10] at hRES
      replace hok := hok.1 c10
      refine x_iconst (v := 0) (pc' := 35) C dX7_cells_34 rfl (by decide) ?_
      obtain ⟨z11, ez11⟩ : ∃ z, z = (setI z2 14 0) := ⟨_, rfl⟩
      replace hRES := bd hRES z11 ez11
      replace hok := bdP hok z11 ez11
      refine x_put (pc' := 38) (w' := wMo (kg k) h ad z11) (ty := .boolean) C B 0 14 inBX7 tyX7 tyX7_ok nmX7 rfl rfl (by decide) fl_X7_128 rfl rfl rfl rfl rfl (Nat.le_of_ble_eq_true rfl) dX7_cells_35 rfl (by rw [ez11]; rfl) ?_
      have cont82b : ∀ (S_82b : CS) (x1_82b : Int32), RES = k_X7_cells_82b S_82b x1_82b → ok_X7_cells_82b S_82b x1_82b → X k 0 0 (wMo (kg k) h ad S_82b) 82 [none, some (.int x1_82b), none] [] := by
        intro S_82b x1_82b hRES hok
        unfold k_X7_cells_82b at hRES
        unfold ok_X7_cells_82b at hok
        refine x_iload_n (pc' := 83) C dX7_cells_82 rfl rfl rfl ?_
        exact x_iret C (Nat.zero_le _) (Nat.zero_le _) dX7_cells_83 ⟨by rw [hRES], by rw [hRES]⟩
      have loop38b : ∀ (n38b : Nat) (S_38b : CS) (x1_38b : Int32) (x2_38b : Int32), RES = l_X7_cells_38b n38b S_38b x1_38b x2_38b → ol_X7_cells_38b n38b S_38b x1_38b x2_38b → X k 0 0 (wMo (kg k) h ad S_38b) 38 [some (.ref h), some (.int x1_38b), some (.int x2_38b)] [] := by
        intro n38b
        induction n38b with
        | zero =>
          intro S_38b x1_38b x2_38b hRES hok
          exact (show False from hok).elim
        | succ n38b ih38b =>
          intro S_38b x1_38b x2_38b hRES hok
          rw [l_X7_cells_38b] at hRES
          rw [ol_X7_cells_38b] at hok
          refine x_aload_n (pc' := 39) C dX7_cells_38 rfl rfl rfl ?_
          refine x_iload_n (pc' := 40) C dX7_cells_39 rfl rfl rfl ?_
          refine x_iconst (v := 1) (pc' := 41) C dX7_cells_40 rfl (by decide) ?_
          refine x_iadd (pc' := 42) (v := (x2_38b + 1)) C dX7_cells_41 rfl rfl ?_
          refine x_bipush (v := 55) (pc' := 44) C dX7_cells_42 rfl (by decide) ?_
          obtain ⟨hn12, hok⟩ := hok
          refine x_RV (st := []) (st2 := [.int (bI (f_X7_isNext S_38b (x2_38b + 1) 55))]) (pc' := 47) C (c_X7_isNext (kl k) (kg k) h ad S_38b (x2_38b + 1) 55 hn12) cw_X7_138 ok_X7_isNext rfl (by decide) 0 rfl rfl [0, 1, 2, 3, 4, 5, 6] rfl rfl rfl (Nat.le_of_ble_eq_true rfl) (Nat.zero_le _) (Nat.zero_le _) rfl dX7_cells_44 rfl rfl ?_
          refine x_ifB_eq (tgt := 82) (pc' := 50) C dX7_cells_47 (by decide) rfl (fun c13 => ?_) (fun c13 => ?_)
          · rw [if_neg c13] at hRES
            replace hok := hok.2 c13
            refine x_forget (L' := [none, some (.int x1_38b), none]) [1] rfl rfl ?_
            exact cont82b S_38b x1_38b hRES hok
          · rw [if_pos c13] at hRES
            replace hok := hok.1 c13
            refine x_aload_n (pc' := 51) C dX7_cells_50 rfl rfl rfl ?_
            refine x_get (pc' := 54) (v := .ref (ad 6)) C 0 6 inBX7 rfl rfl (by decide) fl_X7_22 rfl rfl dX7_cells_51 rfl ?_
            refine x_aload_n (pc' := 55) C dX7_cells_54 rfl rfl rfl ?_
            refine x_get (pc' := 58) (v := .int (S_38b.1 13)) C 0 13 inBX7 rfl rfl (by decide) fl_X7_132 rfl rfl dX7_cells_55 rfl ?_
            obtain ⟨hn14, hok⟩ := hok
            refine x_iald (pc' := 59) (f := S_38b.2 6) (v := ((S_38b.2 6) (S_38b.1 13).toNatClampNeg)) C 5 rfl hn14 rfl dX7_cells_58 rfl ?_
            refine x_istore_n (pc' := 60) (L' := [some (.ref h), some (.int x1_38b), some (.int ((S_38b.2 6) (S_38b.1 13).toNatClampNeg))]) C dX7_cells_59 rfl rfl (Nat.le_of_ble_eq_true rfl) rfl ?_
            refine x_iload_n (pc' := 61) C dX7_cells_60 rfl rfl rfl ?_
            refine x_iconst (v := 1) (pc' := 62) C dX7_cells_61 rfl (by decide) ?_
            refine x_iload_n (pc' := 63) C dX7_cells_62 rfl rfl rfl ?_
            refine x_bipush (v := 48) (pc' := 65) C dX7_cells_63 rfl (by decide) ?_
            refine x_isub (pc' := 66) (v := (((S_38b.2 6) (S_38b.1 13).toNatClampNeg) - 48)) C dX7_cells_65 rfl rfl ?_
            refine x_ishl (pc' := 67) (v := (1 <<< ((((S_38b.2 6) (S_38b.1 13).toNatClampNeg) - 48) &&& 31))) C dX7_cells_66 rfl rfl ?_
            refine x_ior (pc' := 68) (v := (x1_38b ||| (1 <<< ((((S_38b.2 6) (S_38b.1 13).toNatClampNeg) - 48) &&& 31)))) C dX7_cells_67 rfl rfl ?_
            refine x_istore_n (pc' := 69) (L' := [some (.ref h), some (.int (x1_38b ||| (1 <<< ((((S_38b.2 6) (S_38b.1 13).toNatClampNeg) - 48) &&& 31)))), some (.int ((S_38b.2 6) (S_38b.1 13).toNatClampNeg))]) C dX7_cells_68 rfl rfl (Nat.le_of_ble_eq_true rfl) rfl ?_
            refine x_aload_n (pc' := 70) C dX7_cells_69 rfl rfl rfl ?_
            refine x_dup (pc' := 71) C dX7_cells_70 rfl rfl ?_
            refine x_get (pc' := 74) (v := .int (S_38b.1 13)) C 0 13 inBX7 rfl rfl (by decide) fl_X7_132 rfl rfl dX7_cells_71 rfl ?_
            refine x_iconst (v := 1) (pc' := 75) C dX7_cells_74 rfl (by decide) ?_
            refine x_iadd (pc' := 76) (v := (S_38b.1 13 + 1)) C dX7_cells_75 rfl rfl ?_
            obtain ⟨z15, ez15⟩ : ∃ z, z = (setI S_38b 13 (S_38b.1 13 + 1)) := ⟨_, rfl⟩
            replace hRES := bd hRES z15 ez15
            replace hok := bdP hok z15 ez15
            refine x_put (pc' := 79) (w' := wMo (kg k) h ad z15) (ty := .int) C B 0 13 inBX7 tyX7 tyX7_ok nmX7 rfl rfl (by decide) fl_X7_132 rfl rfl rfl rfl rfl (Nat.le_of_ble_eq_true rfl) dX7_cells_76 rfl (by rw [ez15]; rfl) ?_
            refine x_goto (tgt := 38) C dX7_cells_79 (by decide) ?_
            exact ih38b z15 (x1_38b ||| (1 <<< ((((S_38b.2 6) (S_38b.1 13).toNatClampNeg) - 48) &&& 31))) ((S_38b.2 6) (S_38b.1 13).toNatClampNeg) hRES hok
      exact loop38b 10 z11 0 47 hRES hok
    · rw [if_neg c10] at hRES
      replace hok := hok.2 c10
      refine x_iconst (v := 1) (pc' := 31) C dX7_cells_30 rfl (by decide) ?_
      refine x_goto (tgt := 35) C dX7_cells_31 (by decide) ?_
      obtain ⟨z16, ez16⟩ : ∃ z, z = (setI z2 14 1) := ⟨_, rfl⟩
      replace hRES := bd hRES z16 ez16
      replace hok := bdP hok z16 ez16
      refine x_put (pc' := 38) (w' := wMo (kg k) h ad z16) (ty := .boolean) C B 0 14 inBX7 tyX7 tyX7_ok nmX7 rfl rfl (by decide) fl_X7_128 rfl rfl rfl rfl rfl (Nat.le_of_ble_eq_true rfl) dX7_cells_35 rfl (by rw [ez16]; rfl) ?_
      have cont82c : ∀ (S_82c : CS) (x1_82c : Int32), RES = k_X7_cells_82c S_82c x1_82c → ok_X7_cells_82c S_82c x1_82c → X k 0 0 (wMo (kg k) h ad S_82c) 82 [none, some (.int x1_82c), none] [] := by
        intro S_82c x1_82c hRES hok
        unfold k_X7_cells_82c at hRES
        unfold ok_X7_cells_82c at hok
        refine x_iload_n (pc' := 83) C dX7_cells_82 rfl rfl rfl ?_
        exact x_iret C (Nat.zero_le _) (Nat.zero_le _) dX7_cells_83 ⟨by rw [hRES], by rw [hRES]⟩
      have loop38c : ∀ (n38c : Nat) (S_38c : CS) (x1_38c : Int32) (x2_38c : Int32), RES = l_X7_cells_38c n38c S_38c x1_38c x2_38c → ol_X7_cells_38c n38c S_38c x1_38c x2_38c → X k 0 0 (wMo (kg k) h ad S_38c) 38 [some (.ref h), some (.int x1_38c), some (.int x2_38c)] [] := by
        intro n38c
        induction n38c with
        | zero =>
          intro S_38c x1_38c x2_38c hRES hok
          exact (show False from hok).elim
        | succ n38c ih38c =>
          intro S_38c x1_38c x2_38c hRES hok
          rw [l_X7_cells_38c] at hRES
          rw [ol_X7_cells_38c] at hok
          refine x_aload_n (pc' := 39) C dX7_cells_38 rfl rfl rfl ?_
          refine x_iload_n (pc' := 40) C dX7_cells_39 rfl rfl rfl ?_
          refine x_iconst (v := 1) (pc' := 41) C dX7_cells_40 rfl (by decide) ?_
          refine x_iadd (pc' := 42) (v := (x2_38c + 1)) C dX7_cells_41 rfl rfl ?_
          refine x_bipush (v := 55) (pc' := 44) C dX7_cells_42 rfl (by decide) ?_
          obtain ⟨hn17, hok⟩ := hok
          refine x_RV (st := []) (st2 := [.int (bI (f_X7_isNext S_38c (x2_38c + 1) 55))]) (pc' := 47) C (c_X7_isNext (kl k) (kg k) h ad S_38c (x2_38c + 1) 55 hn17) cw_X7_138 ok_X7_isNext rfl (by decide) 0 rfl rfl [0, 1, 2, 3, 4, 5, 6] rfl rfl rfl (Nat.le_of_ble_eq_true rfl) (Nat.zero_le _) (Nat.zero_le _) rfl dX7_cells_44 rfl rfl ?_
          refine x_ifB_eq (tgt := 82) (pc' := 50) C dX7_cells_47 (by decide) rfl (fun c18 => ?_) (fun c18 => ?_)
          · rw [if_neg c18] at hRES
            replace hok := hok.2 c18
            refine x_forget (L' := [none, some (.int x1_38c), none]) [1] rfl rfl ?_
            exact cont82c S_38c x1_38c hRES hok
          · rw [if_pos c18] at hRES
            replace hok := hok.1 c18
            refine x_aload_n (pc' := 51) C dX7_cells_50 rfl rfl rfl ?_
            refine x_get (pc' := 54) (v := .ref (ad 6)) C 0 6 inBX7 rfl rfl (by decide) fl_X7_22 rfl rfl dX7_cells_51 rfl ?_
            refine x_aload_n (pc' := 55) C dX7_cells_54 rfl rfl rfl ?_
            refine x_get (pc' := 58) (v := .int (S_38c.1 13)) C 0 13 inBX7 rfl rfl (by decide) fl_X7_132 rfl rfl dX7_cells_55 rfl ?_
            obtain ⟨hn19, hok⟩ := hok
            refine x_iald (pc' := 59) (f := S_38c.2 6) (v := ((S_38c.2 6) (S_38c.1 13).toNatClampNeg)) C 5 rfl hn19 rfl dX7_cells_58 rfl ?_
            refine x_istore_n (pc' := 60) (L' := [some (.ref h), some (.int x1_38c), some (.int ((S_38c.2 6) (S_38c.1 13).toNatClampNeg))]) C dX7_cells_59 rfl rfl (Nat.le_of_ble_eq_true rfl) rfl ?_
            refine x_iload_n (pc' := 61) C dX7_cells_60 rfl rfl rfl ?_
            refine x_iconst (v := 1) (pc' := 62) C dX7_cells_61 rfl (by decide) ?_
            refine x_iload_n (pc' := 63) C dX7_cells_62 rfl rfl rfl ?_
            refine x_bipush (v := 48) (pc' := 65) C dX7_cells_63 rfl (by decide) ?_
            refine x_isub (pc' := 66) (v := (((S_38c.2 6) (S_38c.1 13).toNatClampNeg) - 48)) C dX7_cells_65 rfl rfl ?_
            refine x_ishl (pc' := 67) (v := (1 <<< ((((S_38c.2 6) (S_38c.1 13).toNatClampNeg) - 48) &&& 31))) C dX7_cells_66 rfl rfl ?_
            refine x_ior (pc' := 68) (v := (x1_38c ||| (1 <<< ((((S_38c.2 6) (S_38c.1 13).toNatClampNeg) - 48) &&& 31)))) C dX7_cells_67 rfl rfl ?_
            refine x_istore_n (pc' := 69) (L' := [some (.ref h), some (.int (x1_38c ||| (1 <<< ((((S_38c.2 6) (S_38c.1 13).toNatClampNeg) - 48) &&& 31)))), some (.int ((S_38c.2 6) (S_38c.1 13).toNatClampNeg))]) C dX7_cells_68 rfl rfl (Nat.le_of_ble_eq_true rfl) rfl ?_
            refine x_aload_n (pc' := 70) C dX7_cells_69 rfl rfl rfl ?_
            refine x_dup (pc' := 71) C dX7_cells_70 rfl rfl ?_
            refine x_get (pc' := 74) (v := .int (S_38c.1 13)) C 0 13 inBX7 rfl rfl (by decide) fl_X7_132 rfl rfl dX7_cells_71 rfl ?_
            refine x_iconst (v := 1) (pc' := 75) C dX7_cells_74 rfl (by decide) ?_
            refine x_iadd (pc' := 76) (v := (S_38c.1 13 + 1)) C dX7_cells_75 rfl rfl ?_
            obtain ⟨z20, ez20⟩ : ∃ z, z = (setI S_38c 13 (S_38c.1 13 + 1)) := ⟨_, rfl⟩
            replace hRES := bd hRES z20 ez20
            replace hok := bdP hok z20 ez20
            refine x_put (pc' := 79) (w' := wMo (kg k) h ad z20) (ty := .int) C B 0 13 inBX7 tyX7 tyX7_ok nmX7 rfl rfl (by decide) fl_X7_132 rfl rfl rfl rfl rfl (Nat.le_of_ble_eq_true rfl) dX7_cells_76 rfl (by rw [ez20]; rfl) ?_
            refine x_goto (tgt := 38) C dX7_cells_79 (by decide) ?_
            exact ih38c z20 (x1_38c ||| (1 <<< ((((S_38c.2 6) (S_38c.1 13).toNatClampNeg) - 48) &&& 31))) ((S_38c.2 6) (S_38c.1 13).toNatClampNeg) hRES hok
      exact loop38c 10 z16 0 47 hRES hok

def j_X7_order_202 (S_202 : CS) : CS := (bind1 (f_X7_number S_202 23) (fun z2 => (bind1 (setI z2.2 16 z2.1) (fun z3 => (if z3.1 15 = 109 then (bind1 (f_X7_number z3 7) (fun z13 => (bind1 (setI z13.2 17 z13.1) (fun z14 => (bind1 (f_X7_number z14 9) (fun z16 => (bind1 (setI z16.2 18 z16.1) (fun z17 => (if z17.1 15 = 105 then (bind1 (f_X7_number z17 23) (fun z20 => (bind1 (setI z20.2 17 z20.1) (fun z21 => (bind1 (f_X7_cells z21) (fun z23 => (bind1 (setI z23.2 18 z23.1) (fun z24 => z24)))))))) else z17))))))))) else (if z3.1 15 = 105 then (bind1 (f_X7_number z3 23) (fun z7 => (bind1 (setI z7.2 17 z7.1) (fun z8 => (bind1 (f_X7_cells z8) (fun z10 => (bind1 (setI z10.2 18 z10.1) (fun z11 => z11)))))))) else z3))))))
def oj_X7_order_202 (S_202 : CS) : Prop := ((o_X7_number S_202 23) ∧ (bind1 (f_X7_number S_202 23) (fun z2 => (bind1 (setI z2.2 16 z2.1) (fun z3 => ((z3.1 15 = 109 → ((o_X7_number z3 7) ∧ (bind1 (f_X7_number z3 7) (fun z13 => (bind1 (setI z13.2 17 z13.1) (fun z14 => ((o_X7_number z14 9) ∧ (bind1 (f_X7_number z14 9) (fun z16 => (bind1 (setI z16.2 18 z16.1) (fun z17 => ((z17.1 15 = 105 → ((o_X7_number z17 23) ∧ (bind1 (f_X7_number z17 23) (fun z20 => (bind1 (setI z20.2 17 z20.1) (fun z21 => ((o_X7_cells z21) ∧ (bind1 (f_X7_cells z21) (fun z23 => (bind1 (setI z23.2 18 z23.1) (fun z24 => True))))))))))) ∧ (¬ (z17.1 15 = 105) → True))))))))))))) ∧ (¬ (z3.1 15 = 109) → ((z3.1 15 = 105 → ((o_X7_number z3 23) ∧ (bind1 (f_X7_number z3 23) (fun z7 => (bind1 (setI z7.2 17 z7.1) (fun z8 => ((o_X7_cells z8) ∧ (bind1 (f_X7_cells z8) (fun z10 => (bind1 (setI z10.2 18 z10.1) (fun z11 => True))))))))))) ∧ (¬ (z3.1 15 = 105) → True)))))))))
def j_X7_order_28 (S_28 : CS) : CS := (if S_28.1 15 = 97 then (bind1 (f_X7_signs S_28 97 115 107) (fun z27 => (j_X7_order_202 z27))) else (if S_28.1 15 = 106 then (bind1 (f_X7_signs S_28 106 111 105) (fun z30 => (bind1 (f_X7_sign z30 110) (fun z32 => (j_X7_order_202 z32))))) else (if S_28.1 15 = 114 then (bind1 (f_X7_signs S_28 114 111 111) (fun z35 => (bind1 (f_X7_sign z35 116) (fun z37 => (j_X7_order_202 z37))))) else (bind1 (f_X7_sign S_28 109) (fun z39 => (if (f_X7_isNext z39 105 105) = true then (bind1 (setI z39 15 105) (fun z57 => (bind1 (f_X7_sign z57 105) (fun z60 => (if z60.1 15 = 105 then (bind1 (f_X7_sign z60 120) (fun z68 => (if z68.1 15 = 109 then (bind1 (f_X7_sign z68 101) (fun z71 => (j_X7_order_202 z71))) else (j_X7_order_202 z68)))) else (bind1 (f_X7_sign z60 107) (fun z63 => (if z63.1 15 = 109 then (bind1 (f_X7_sign z63 101) (fun z66 => (j_X7_order_202 z66))) else (j_X7_order_202 z63))))))))) else (bind1 (setI z39 15 109) (fun z42 => (bind1 (f_X7_sign z42 97) (fun z45 => (if z45.1 15 = 105 then (bind1 (f_X7_sign z45 120) (fun z53 => (if z53.1 15 = 109 then (bind1 (f_X7_sign z53 101) (fun z56 => (j_X7_order_202 z56))) else (j_X7_order_202 z53)))) else (bind1 (f_X7_sign z45 107) (fun z48 => (if z48.1 15 = 109 then (bind1 (f_X7_sign z48 101) (fun z51 => (j_X7_order_202 z51))) else (j_X7_order_202 z48)))))))))))))))
def oj_X7_order_28 (S_28 : CS) : Prop := ((S_28.1 15 = 97 → ((o_X7_signs S_28 97 115 107) ∧ (bind1 (f_X7_signs S_28 97 115 107) (fun z27 => (oj_X7_order_202 z27))))) ∧ (¬ (S_28.1 15 = 97) → ((S_28.1 15 = 106 → ((o_X7_signs S_28 106 111 105) ∧ (bind1 (f_X7_signs S_28 106 111 105) (fun z30 => ((o_X7_sign z30 110) ∧ (bind1 (f_X7_sign z30 110) (fun z32 => (oj_X7_order_202 z32)))))))) ∧ (¬ (S_28.1 15 = 106) → ((S_28.1 15 = 114 → ((o_X7_signs S_28 114 111 111) ∧ (bind1 (f_X7_signs S_28 114 111 111) (fun z35 => ((o_X7_sign z35 116) ∧ (bind1 (f_X7_sign z35 116) (fun z37 => (oj_X7_order_202 z37)))))))) ∧ (¬ (S_28.1 15 = 114) → ((o_X7_sign S_28 109) ∧ (bind1 (f_X7_sign S_28 109) (fun z39 => ((o_X7_isNext z39 105 105) ∧ (((f_X7_isNext z39 105 105) = true → (bind1 (setI z39 15 105) (fun z57 => ((o_X7_sign z57 105) ∧ (bind1 (f_X7_sign z57 105) (fun z60 => ((z60.1 15 = 105 → ((o_X7_sign z60 120) ∧ (bind1 (f_X7_sign z60 120) (fun z68 => ((z68.1 15 = 109 → ((o_X7_sign z68 101) ∧ (bind1 (f_X7_sign z68 101) (fun z71 => (oj_X7_order_202 z71))))) ∧ (¬ (z68.1 15 = 109) → (oj_X7_order_202 z68))))))) ∧ (¬ (z60.1 15 = 105) → ((o_X7_sign z60 107) ∧ (bind1 (f_X7_sign z60 107) (fun z63 => ((z63.1 15 = 109 → ((o_X7_sign z63 101) ∧ (bind1 (f_X7_sign z63 101) (fun z66 => (oj_X7_order_202 z66))))) ∧ (¬ (z63.1 15 = 109) → (oj_X7_order_202 z63)))))))))))))) ∧ (¬ (f_X7_isNext z39 105 105) = true → (bind1 (setI z39 15 109) (fun z42 => ((o_X7_sign z42 97) ∧ (bind1 (f_X7_sign z42 97) (fun z45 => ((z45.1 15 = 105 → ((o_X7_sign z45 120) ∧ (bind1 (f_X7_sign z45 120) (fun z53 => ((z53.1 15 = 109 → ((o_X7_sign z53 101) ∧ (bind1 (f_X7_sign z53 101) (fun z56 => (oj_X7_order_202 z56))))) ∧ (¬ (z53.1 15 = 109) → (oj_X7_order_202 z53))))))) ∧ (¬ (z45.1 15 = 105) → ((o_X7_sign z45 107) ∧ (bind1 (f_X7_sign z45 107) (fun z48 => ((z48.1 15 = 109 → ((o_X7_sign z48 101) ∧ (bind1 (f_X7_sign z48 101) (fun z51 => (oj_X7_order_202 z51))))) ∧ (¬ (z48.1 15 = 109) → (oj_X7_order_202 z48)))))))))))))))))))))))))
def f_X7_order (S : CS) : CS := (if S.1 13 < S.1 7 then (bind1 (setI S 15 ((S.2 6) (S.1 13).toNatClampNeg)) (fun z75 => (j_X7_order_28 z75))) else (bind1 (setI S 15 0) (fun z73 => (j_X7_order_28 z73))))
def o_X7_order (S : CS) : Prop := ((S.1 13 < S.1 7 → (vp_in (S.1 13) 80 ∧ (bind1 (setI S 15 ((S.2 6) (S.1 13).toNatClampNeg)) (fun z75 => (oj_X7_order_28 z75))))) ∧ (¬ (S.1 13 < S.1 7) → (bind1 (setI S 15 0) (fun z73 => (oj_X7_order_28 z73)))))
set_option maxRecDepth 100000 in
set_option maxHeartbeats 8000000 in
theorem c_X7_order (l : Launch) (g : GT) (h : Nat) (ad : Nat → Nat) (S : CS) (hok : o_X7_order S) : CW l yX7_order (.code yX7_order cX7_order 1 none) 3 g [.ref h] (wMo g h ad S) none (wMo g h ad (f_X7_order S)) := by
  obtain ⟨RES, hRES⟩ : ∃ z, z = (f_X7_order S) := ⟨_, rfl⟩
  rw [← hRES]
  unfold f_X7_order at hRES
  unfold o_X7_order at hok
  refine CWx.of (nL := 1) (ret := none) (own := RX7) (cc := cX7_order) rfl (by decide) rfl (List.forall_mem_cons.mpr ⟨rfl, (fun _ h => absurd h List.not_mem_nil)⟩) (Nat.le_of_ble_eq_true rfl) ?_
  intro k C B hin hkl hkg
  subst hkl; subst hkg
  refine x_loc2 (L' := [some (.ref h)]) rfl ?_
  have join28 : ∀ (S_28 : CS), RES = j_X7_order_28 S_28 → oj_X7_order_28 S_28 → X k 0 0 (wMo (kg k) h ad S_28) 28 [some (.ref h)] [] := by
    intro S_28 hRES hok
    unfold j_X7_order_28 at hRES
    unfold oj_X7_order_28 at hok
    have join202 : ∀ (S_202 : CS), RES = j_X7_order_202 S_202 → oj_X7_order_202 S_202 → X k 0 0 (wMo (kg k) h ad S_202) 202 [some (.ref h)] [] := by
      intro S_202 hRES hok
      unfold j_X7_order_202 at hRES
      unfold oj_X7_order_202 at hok
      refine x_aload_n (pc' := 203) C dX7_order_202 rfl rfl rfl ?_
      refine x_aload_n (pc' := 204) C dX7_order_203 rfl rfl rfl ?_
      refine x_bipush (v := 23) (pc' := 206) C dX7_order_204 rfl (by decide) ?_
      obtain ⟨hn1, hok⟩ := hok
      obtain ⟨z2, ez2⟩ : ∃ z, z = (f_X7_number S_202 23) := ⟨_, rfl⟩
      replace hRES := bd hRES z2 ez2
      replace hok := bdP hok z2 ez2
      have hc := c_X7_number (kl k) (kg k) h ad S_202 23 hn1
      rw [← ez2] at hc
      refine x_WV (st := [.ref h]) (st2 := [.int z2.1, .ref h]) (pc' := 209) C B hc cw_X7_148 ok_X7_number rfl (by decide) 0 rfl rfl [0, 1, 2, 3, 4, 5, 6] [] [0, 1, 2, 3, 4, 5, 6] (wMo (kg k) h ad z2.2) rfl rfl rfl rfl (by decide) rfl rfl rfl (Nat.le_of_ble_eq_true rfl) (Nat.zero_le _) (Nat.zero_le _) rfl dX7_order_206 rfl rfl ?_
      obtain ⟨z3, ez3⟩ : ∃ z, z = (setI z2.2 16 z2.1) := ⟨_, rfl⟩
      replace hRES := bd hRES z3 ez3
      replace hok := bdP hok z3 ez3
      refine x_put (pc' := 212) (w' := wMo (kg k) h ad z3) (ty := .int) C B 0 16 inBX7 tyX7 tyX7_ok nmX7 rfl rfl (by decide) fl_X7_151 rfl rfl rfl rfl rfl (Nat.le_of_ble_eq_true rfl) dX7_order_209 rfl (by rw [ez3]; rfl) ?_
      refine x_aload_n (pc' := 213) C dX7_order_212 rfl rfl rfl ?_
      refine x_get (pc' := 216) (v := .int (z3.1 15)) C 0 15 inBX7 rfl rfl (by decide) fl_X7_141 rfl rfl dX7_order_213 rfl ?_
      refine x_bipush (v := 109) (pc' := 218) C dX7_order_216 rfl (by decide) ?_
      refine x_icmp_ne (tgt := 241) (pc' := 221) C dX7_order_218 (by decide) rfl (fun c4 => ?_) (fun c4 => ?_)
      · rw [if_neg c4] at hRES
        replace hok := hok.2 c4
        refine x_aload_n (pc' := 242) C dX7_order_241 rfl rfl rfl ?_
        refine x_get (pc' := 245) (v := .int (z3.1 15)) C 0 15 inBX7 rfl rfl (by decide) fl_X7_141 rfl rfl dX7_order_242 rfl ?_
        refine x_bipush (v := 105) (pc' := 247) C dX7_order_245 rfl (by decide) ?_
        refine x_icmp_ne (tgt := 268) (pc' := 250) C dX7_order_247 (by decide) rfl (fun c5 => ?_) (fun c5 => ?_)
        · rw [if_neg c5] at hRES
          replace hok := hok.2 c5
          exact x_vret C (Nat.zero_le _) (Nat.zero_le _) dX7_order_268 ⟨rfl, by rw [hRES]⟩
        · rw [if_pos c5] at hRES
          replace hok := hok.1 c5
          refine x_aload_n (pc' := 251) C dX7_order_250 rfl rfl rfl ?_
          refine x_aload_n (pc' := 252) C dX7_order_251 rfl rfl rfl ?_
          refine x_bipush (v := 23) (pc' := 254) C dX7_order_252 rfl (by decide) ?_
          obtain ⟨hn6, hok⟩ := hok
          obtain ⟨z7, ez7⟩ : ∃ z, z = (f_X7_number z3 23) := ⟨_, rfl⟩
          replace hRES := bd hRES z7 ez7
          replace hok := bdP hok z7 ez7
          have hc := c_X7_number (kl k) (kg k) h ad z3 23 hn6
          rw [← ez7] at hc
          refine x_WV (st := [.ref h]) (st2 := [.int z7.1, .ref h]) (pc' := 257) C B hc cw_X7_148 ok_X7_number rfl (by decide) 0 rfl rfl [0, 1, 2, 3, 4, 5, 6] [] [0, 1, 2, 3, 4, 5, 6] (wMo (kg k) h ad z7.2) rfl rfl rfl rfl (by decide) rfl rfl rfl (Nat.le_of_ble_eq_true rfl) (Nat.zero_le _) (Nat.zero_le _) rfl dX7_order_254 rfl rfl ?_
          obtain ⟨z8, ez8⟩ : ∃ z, z = (setI z7.2 17 z7.1) := ⟨_, rfl⟩
          replace hRES := bd hRES z8 ez8
          replace hok := bdP hok z8 ez8
          refine x_put (pc' := 260) (w' := wMo (kg k) h ad z8) (ty := .int) C B 0 17 inBX7 tyX7 tyX7_ok nmX7 rfl rfl (by decide) fl_X7_154 rfl rfl rfl rfl rfl (Nat.le_of_ble_eq_true rfl) dX7_order_257 rfl (by rw [ez8]; rfl) ?_
          refine x_aload_n (pc' := 261) C dX7_order_260 rfl rfl rfl ?_
          refine x_aload_n (pc' := 262) C dX7_order_261 rfl rfl rfl ?_
          obtain ⟨hn9, hok⟩ := hok
          obtain ⟨z10, ez10⟩ : ∃ z, z = (f_X7_cells z8) := ⟨_, rfl⟩
          replace hRES := bd hRES z10 ez10
          replace hok := bdP hok z10 ez10
          have hc := c_X7_cells (kl k) (kg k) h ad z8 hn9
          rw [← ez10] at hc
          refine x_WV (st := [.ref h]) (st2 := [.int z10.1, .ref h]) (pc' := 265) C B hc cw_X7_160 ok_X7_cells rfl (by decide) 0 rfl rfl [0, 1, 2, 3, 4, 5, 6] [] [0, 1, 2, 3, 4, 5, 6] (wMo (kg k) h ad z10.2) rfl rfl rfl rfl (by decide) rfl rfl rfl (Nat.le_of_ble_eq_true rfl) (Nat.zero_le _) (Nat.zero_le _) rfl dX7_order_262 rfl rfl ?_
          obtain ⟨z11, ez11⟩ : ∃ z, z = (setI z10.2 18 z10.1) := ⟨_, rfl⟩
          replace hRES := bd hRES z11 ez11
          replace hok := bdP hok z11 ez11
          refine x_put (pc' := 268) (w' := wMo (kg k) h ad z11) (ty := .int) C B 0 18 inBX7 tyX7 tyX7_ok nmX7 rfl rfl (by decide) fl_X7_157 rfl rfl rfl rfl rfl (Nat.le_of_ble_eq_true rfl) dX7_order_265 rfl (by rw [ez11]; rfl) ?_
          exact x_vret C (Nat.zero_le _) (Nat.zero_le _) dX7_order_268 ⟨rfl, by rw [hRES]⟩
      · rw [if_pos c4] at hRES
        replace hok := hok.1 c4
        refine x_aload_n (pc' := 222) C dX7_order_221 rfl rfl rfl ?_
        refine x_aload_n (pc' := 223) C dX7_order_222 rfl rfl rfl ?_
        refine x_bipush (v := 7) (pc' := 225) C dX7_order_223 rfl (by decide) ?_
        obtain ⟨hn12, hok⟩ := hok
        obtain ⟨z13, ez13⟩ : ∃ z, z = (f_X7_number z3 7) := ⟨_, rfl⟩
        replace hRES := bd hRES z13 ez13
        replace hok := bdP hok z13 ez13
        have hc := c_X7_number (kl k) (kg k) h ad z3 7 hn12
        rw [← ez13] at hc
        refine x_WV (st := [.ref h]) (st2 := [.int z13.1, .ref h]) (pc' := 228) C B hc cw_X7_148 ok_X7_number rfl (by decide) 0 rfl rfl [0, 1, 2, 3, 4, 5, 6] [] [0, 1, 2, 3, 4, 5, 6] (wMo (kg k) h ad z13.2) rfl rfl rfl rfl (by decide) rfl rfl rfl (Nat.le_of_ble_eq_true rfl) (Nat.zero_le _) (Nat.zero_le _) rfl dX7_order_225 rfl rfl ?_
        obtain ⟨z14, ez14⟩ : ∃ z, z = (setI z13.2 17 z13.1) := ⟨_, rfl⟩
        replace hRES := bd hRES z14 ez14
        replace hok := bdP hok z14 ez14
        refine x_put (pc' := 231) (w' := wMo (kg k) h ad z14) (ty := .int) C B 0 17 inBX7 tyX7 tyX7_ok nmX7 rfl rfl (by decide) fl_X7_154 rfl rfl rfl rfl rfl (Nat.le_of_ble_eq_true rfl) dX7_order_228 rfl (by rw [ez14]; rfl) ?_
        refine x_aload_n (pc' := 232) C dX7_order_231 rfl rfl rfl ?_
        refine x_aload_n (pc' := 233) C dX7_order_232 rfl rfl rfl ?_
        refine x_bipush (v := 9) (pc' := 235) C dX7_order_233 rfl (by decide) ?_
        obtain ⟨hn15, hok⟩ := hok
        obtain ⟨z16, ez16⟩ : ∃ z, z = (f_X7_number z14 9) := ⟨_, rfl⟩
        replace hRES := bd hRES z16 ez16
        replace hok := bdP hok z16 ez16
        have hc := c_X7_number (kl k) (kg k) h ad z14 9 hn15
        rw [← ez16] at hc
        refine x_WV (st := [.ref h]) (st2 := [.int z16.1, .ref h]) (pc' := 238) C B hc cw_X7_148 ok_X7_number rfl (by decide) 0 rfl rfl [0, 1, 2, 3, 4, 5, 6] [] [0, 1, 2, 3, 4, 5, 6] (wMo (kg k) h ad z16.2) rfl rfl rfl rfl (by decide) rfl rfl rfl (Nat.le_of_ble_eq_true rfl) (Nat.zero_le _) (Nat.zero_le _) rfl dX7_order_235 rfl rfl ?_
        obtain ⟨z17, ez17⟩ : ∃ z, z = (setI z16.2 18 z16.1) := ⟨_, rfl⟩
        replace hRES := bd hRES z17 ez17
        replace hok := bdP hok z17 ez17
        refine x_put (pc' := 241) (w' := wMo (kg k) h ad z17) (ty := .int) C B 0 18 inBX7 tyX7 tyX7_ok nmX7 rfl rfl (by decide) fl_X7_157 rfl rfl rfl rfl rfl (Nat.le_of_ble_eq_true rfl) dX7_order_238 rfl (by rw [ez17]; rfl) ?_
        refine x_aload_n (pc' := 242) C dX7_order_241 rfl rfl rfl ?_
        refine x_get (pc' := 245) (v := .int (z17.1 15)) C 0 15 inBX7 rfl rfl (by decide) fl_X7_141 rfl rfl dX7_order_242 rfl ?_
        refine x_bipush (v := 105) (pc' := 247) C dX7_order_245 rfl (by decide) ?_
        refine x_icmp_ne (tgt := 268) (pc' := 250) C dX7_order_247 (by decide) rfl (fun c18 => ?_) (fun c18 => ?_)
        · rw [if_neg c18] at hRES
          replace hok := hok.2 c18
          exact x_vret C (Nat.zero_le _) (Nat.zero_le _) dX7_order_268 ⟨rfl, by rw [hRES]⟩
        · rw [if_pos c18] at hRES
          replace hok := hok.1 c18
          refine x_aload_n (pc' := 251) C dX7_order_250 rfl rfl rfl ?_
          refine x_aload_n (pc' := 252) C dX7_order_251 rfl rfl rfl ?_
          refine x_bipush (v := 23) (pc' := 254) C dX7_order_252 rfl (by decide) ?_
          obtain ⟨hn19, hok⟩ := hok
          obtain ⟨z20, ez20⟩ : ∃ z, z = (f_X7_number z17 23) := ⟨_, rfl⟩
          replace hRES := bd hRES z20 ez20
          replace hok := bdP hok z20 ez20
          have hc := c_X7_number (kl k) (kg k) h ad z17 23 hn19
          rw [← ez20] at hc
          refine x_WV (st := [.ref h]) (st2 := [.int z20.1, .ref h]) (pc' := 257) C B hc cw_X7_148 ok_X7_number rfl (by decide) 0 rfl rfl [0, 1, 2, 3, 4, 5, 6] [] [0, 1, 2, 3, 4, 5, 6] (wMo (kg k) h ad z20.2) rfl rfl rfl rfl (by decide) rfl rfl rfl (Nat.le_of_ble_eq_true rfl) (Nat.zero_le _) (Nat.zero_le _) rfl dX7_order_254 rfl rfl ?_
          obtain ⟨z21, ez21⟩ : ∃ z, z = (setI z20.2 17 z20.1) := ⟨_, rfl⟩
          replace hRES := bd hRES z21 ez21
          replace hok := bdP hok z21 ez21
          refine x_put (pc' := 260) (w' := wMo (kg k) h ad z21) (ty := .int) C B 0 17 inBX7 tyX7 tyX7_ok nmX7 rfl rfl (by decide) fl_X7_154 rfl rfl rfl rfl rfl (Nat.le_of_ble_eq_true rfl) dX7_order_257 rfl (by rw [ez21]; rfl) ?_
          refine x_aload_n (pc' := 261) C dX7_order_260 rfl rfl rfl ?_
          refine x_aload_n (pc' := 262) C dX7_order_261 rfl rfl rfl ?_
          obtain ⟨hn22, hok⟩ := hok
          obtain ⟨z23, ez23⟩ : ∃ z, z = (f_X7_cells z21) := ⟨_, rfl⟩
          replace hRES := bd hRES z23 ez23
          replace hok := bdP hok z23 ez23
          have hc := c_X7_cells (kl k) (kg k) h ad z21 hn22
          rw [← ez23] at hc
          refine x_WV (st := [.ref h]) (st2 := [.int z23.1, .ref h]) (pc' := 265) C B hc cw_X7_160 ok_X7_cells rfl (by decide) 0 rfl rfl [0, 1, 2, 3, 4, 5, 6] [] [0, 1, 2, 3, 4, 5, 6] (wMo (kg k) h ad z23.2) rfl rfl rfl rfl (by decide) rfl rfl rfl (Nat.le_of_ble_eq_true rfl) (Nat.zero_le _) (Nat.zero_le _) rfl dX7_order_262 rfl rfl ?_
          obtain ⟨z24, ez24⟩ : ∃ z, z = (setI z23.2 18 z23.1) := ⟨_, rfl⟩
          replace hRES := bd hRES z24 ez24
          replace hok := bdP hok z24 ez24
          refine x_put (pc' := 268) (w' := wMo (kg k) h ad z24) (ty := .int) C B 0 18 inBX7 tyX7 tyX7_ok nmX7 rfl rfl (by decide) fl_X7_157 rfl rfl rfl rfl rfl (Nat.le_of_ble_eq_true rfl) dX7_order_265 rfl (by rw [ez24]; rfl) ?_
          exact x_vret C (Nat.zero_le _) (Nat.zero_le _) dX7_order_268 ⟨rfl, by rw [hRES]⟩
    refine x_aload_n (pc' := 29) C dX7_order_28 rfl rfl rfl ?_
    refine x_get (pc' := 32) (v := .int (S_28.1 15)) C 0 15 inBX7 rfl rfl (by decide) fl_X7_141 rfl rfl dX7_order_29 rfl ?_
    by_cases c25 : S_28.1 15 = 97
    · rw [if_pos c25] at hRES
      replace hok := hok.1 c25
      refine x_lookup (off := 36) (tgt := 68) C dX7_order_32 (by decide) (by rw [c25]; decide) (by decide) ?_
      refine x_aload_n (pc' := 69) C dX7_order_68 rfl rfl rfl ?_
      refine x_bipush (v := 97) (pc' := 71) C dX7_order_69 rfl (by decide) ?_
      refine x_bipush (v := 115) (pc' := 73) C dX7_order_71 rfl (by decide) ?_
      refine x_bipush (v := 107) (pc' := 75) C dX7_order_73 rfl (by decide) ?_
      obtain ⟨hn26, hok⟩ := hok
      obtain ⟨z27, ez27⟩ : ∃ z, z = (f_X7_signs S_28 97 115 107) := ⟨_, rfl⟩
      replace hRES := bd hRES z27 ez27
      replace hok := bdP hok z27 ez27
      have hc := c_X7_signs (kl k) (kg k) h ad S_28 97 115 107 hn26
      rw [← ez27] at hc
      refine x_WV (st := []) (st2 := []) (pc' := 78) C B hc cw_X7_144 ok_X7_signs rfl (by decide) 0 rfl rfl [0, 1, 2, 3, 4, 5, 6] [] [0, 1, 2, 3, 4, 5, 6] (wMo (kg k) h ad z27) rfl rfl rfl rfl (by decide) rfl rfl rfl (Nat.le_of_ble_eq_true rfl) (Nat.zero_le _) (Nat.zero_le _) rfl dX7_order_75 rfl rfl ?_
      refine x_goto (tgt := 202) C dX7_order_78 (by decide) ?_
      exact join202 z27 hRES hok
    · rw [if_neg c25] at hRES
      replace hok := hok.2 c25
      by_cases c28 : S_28.1 15 = 106
      · rw [if_pos c28] at hRES
        replace hok := hok.1 c28
        refine x_lookup (off := 68) (tgt := 100) C dX7_order_32 (by decide) (by rw [c28]; decide) (by decide) ?_
        refine x_aload_n (pc' := 101) C dX7_order_100 rfl rfl rfl ?_
        refine x_bipush (v := 106) (pc' := 103) C dX7_order_101 rfl (by decide) ?_
        refine x_bipush (v := 111) (pc' := 105) C dX7_order_103 rfl (by decide) ?_
        refine x_bipush (v := 105) (pc' := 107) C dX7_order_105 rfl (by decide) ?_
        obtain ⟨hn29, hok⟩ := hok
        obtain ⟨z30, ez30⟩ : ∃ z, z = (f_X7_signs S_28 106 111 105) := ⟨_, rfl⟩
        replace hRES := bd hRES z30 ez30
        replace hok := bdP hok z30 ez30
        have hc := c_X7_signs (kl k) (kg k) h ad S_28 106 111 105 hn29
        rw [← ez30] at hc
        refine x_WV (st := []) (st2 := []) (pc' := 110) C B hc cw_X7_144 ok_X7_signs rfl (by decide) 0 rfl rfl [0, 1, 2, 3, 4, 5, 6] [] [0, 1, 2, 3, 4, 5, 6] (wMo (kg k) h ad z30) rfl rfl rfl rfl (by decide) rfl rfl rfl (Nat.le_of_ble_eq_true rfl) (Nat.zero_le _) (Nat.zero_le _) rfl dX7_order_107 rfl rfl ?_
        refine x_aload_n (pc' := 111) C dX7_order_110 rfl rfl rfl ?_
        refine x_bipush (v := 110) (pc' := 113) C dX7_order_111 rfl (by decide) ?_
        obtain ⟨hn31, hok⟩ := hok
        obtain ⟨z32, ez32⟩ : ∃ z, z = (f_X7_sign z30 110) := ⟨_, rfl⟩
        replace hRES := bd hRES z32 ez32
        replace hok := bdP hok z32 ez32
        have hc := c_X7_sign (kl k) (kg k) h ad z30 110 hn31
        rw [← ez32] at hc
        refine x_WV (st := []) (st2 := []) (pc' := 116) C B hc cw_X7_135 ok_X7_sign rfl (by decide) 0 rfl rfl [0, 1, 2, 3, 4, 5, 6] [] [0, 1, 2, 3, 4, 5, 6] (wMo (kg k) h ad z32) rfl rfl rfl rfl (by decide) rfl rfl rfl (Nat.le_of_ble_eq_true rfl) (Nat.zero_le _) (Nat.zero_le _) rfl dX7_order_113 rfl rfl ?_
        refine x_goto (tgt := 202) C dX7_order_116 (by decide) ?_
        exact join202 z32 hRES hok
      · rw [if_neg c28] at hRES
        replace hok := hok.2 c28
        by_cases c33 : S_28.1 15 = 114
        · rw [if_pos c33] at hRES
          replace hok := hok.1 c33
          refine x_lookup (off := 49) (tgt := 81) C dX7_order_32 (by decide) (by rw [c33]; decide) (by decide) ?_
          refine x_aload_n (pc' := 82) C dX7_order_81 rfl rfl rfl ?_
          refine x_bipush (v := 114) (pc' := 84) C dX7_order_82 rfl (by decide) ?_
          refine x_bipush (v := 111) (pc' := 86) C dX7_order_84 rfl (by decide) ?_
          refine x_bipush (v := 111) (pc' := 88) C dX7_order_86 rfl (by decide) ?_
          obtain ⟨hn34, hok⟩ := hok
          obtain ⟨z35, ez35⟩ : ∃ z, z = (f_X7_signs S_28 114 111 111) := ⟨_, rfl⟩
          replace hRES := bd hRES z35 ez35
          replace hok := bdP hok z35 ez35
          have hc := c_X7_signs (kl k) (kg k) h ad S_28 114 111 111 hn34
          rw [← ez35] at hc
          refine x_WV (st := []) (st2 := []) (pc' := 91) C B hc cw_X7_144 ok_X7_signs rfl (by decide) 0 rfl rfl [0, 1, 2, 3, 4, 5, 6] [] [0, 1, 2, 3, 4, 5, 6] (wMo (kg k) h ad z35) rfl rfl rfl rfl (by decide) rfl rfl rfl (Nat.le_of_ble_eq_true rfl) (Nat.zero_le _) (Nat.zero_le _) rfl dX7_order_88 rfl rfl ?_
          refine x_aload_n (pc' := 92) C dX7_order_91 rfl rfl rfl ?_
          refine x_bipush (v := 116) (pc' := 94) C dX7_order_92 rfl (by decide) ?_
          obtain ⟨hn36, hok⟩ := hok
          obtain ⟨z37, ez37⟩ : ∃ z, z = (f_X7_sign z35 116) := ⟨_, rfl⟩
          replace hRES := bd hRES z37 ez37
          replace hok := bdP hok z37 ez37
          have hc := c_X7_sign (kl k) (kg k) h ad z35 116 hn36
          rw [← ez37] at hc
          refine x_WV (st := []) (st2 := []) (pc' := 97) C B hc cw_X7_135 ok_X7_sign rfl (by decide) 0 rfl rfl [0, 1, 2, 3, 4, 5, 6] [] [0, 1, 2, 3, 4, 5, 6] (wMo (kg k) h ad z37) rfl rfl rfl rfl (by decide) rfl rfl rfl (Nat.le_of_ble_eq_true rfl) (Nat.zero_le _) (Nat.zero_le _) rfl dX7_order_94 rfl rfl ?_
          refine x_goto (tgt := 202) C dX7_order_97 (by decide) ?_
          exact join202 z37 hRES hok
        · rw [if_neg c33] at hRES
          replace hok := hok.2 c33
          refine x_lookup (off := 87) (tgt := 119) C dX7_order_32 (by decide) (by show Op.lookupswitch.offset [(97, 36), (106, 68), (114, 49)] 87 _ = _; rw [lv_osw c25 (by decide), lv_osw c28 (by decide), lv_osw c33 (by decide)]; rfl) (by decide) ?_
          refine x_aload_n (pc' := 120) C dX7_order_119 rfl rfl rfl ?_
          refine x_bipush (v := 109) (pc' := 122) C dX7_order_120 rfl (by decide) ?_
          obtain ⟨hn38, hok⟩ := hok
          obtain ⟨z39, ez39⟩ : ∃ z, z = (f_X7_sign S_28 109) := ⟨_, rfl⟩
          replace hRES := bd hRES z39 ez39
          replace hok := bdP hok z39 ez39
          have hc := c_X7_sign (kl k) (kg k) h ad S_28 109 hn38
          rw [← ez39] at hc
          refine x_WV (st := []) (st2 := []) (pc' := 125) C B hc cw_X7_135 ok_X7_sign rfl (by decide) 0 rfl rfl [0, 1, 2, 3, 4, 5, 6] [] [0, 1, 2, 3, 4, 5, 6] (wMo (kg k) h ad z39) rfl rfl rfl rfl (by decide) rfl rfl rfl (Nat.le_of_ble_eq_true rfl) (Nat.zero_le _) (Nat.zero_le _) rfl dX7_order_122 rfl rfl ?_
          refine x_aload_n (pc' := 126) C dX7_order_125 rfl rfl rfl ?_
          refine x_aload_n (pc' := 127) C dX7_order_126 rfl rfl rfl ?_
          refine x_bipush (v := 105) (pc' := 129) C dX7_order_127 rfl (by decide) ?_
          refine x_bipush (v := 105) (pc' := 131) C dX7_order_129 rfl (by decide) ?_
          obtain ⟨hn40, hok⟩ := hok
          refine x_RV (st := [.ref h]) (st2 := [.int (bI (f_X7_isNext z39 105 105)), .ref h]) (pc' := 134) C (c_X7_isNext (kl k) (kg k) h ad z39 105 105 hn40) cw_X7_138 ok_X7_isNext rfl (by decide) 0 rfl rfl [0, 1, 2, 3, 4, 5, 6] rfl rfl rfl (Nat.le_of_ble_eq_true rfl) (Nat.zero_le _) (Nat.zero_le _) rfl dX7_order_131 rfl rfl ?_
          refine x_ifB_eq (tgt := 142) (pc' := 137) C dX7_order_134 (by decide) rfl (fun c41 => ?_) (fun c41 => ?_)
          · rw [if_neg c41] at hRES
            replace hok := hok.2 c41
            refine x_bipush (v := 109) (pc' := 144) C dX7_order_142 rfl (by decide) ?_
            obtain ⟨z42, ez42⟩ : ∃ z, z = (setI z39 15 109) := ⟨_, rfl⟩
            replace hRES := bd hRES z42 ez42
            replace hok := bdP hok z42 ez42
            refine x_put (pc' := 147) (w' := wMo (kg k) h ad z42) (ty := .int) C B 0 15 inBX7 tyX7 tyX7_ok nmX7 rfl rfl (by decide) fl_X7_141 rfl rfl rfl rfl rfl (Nat.le_of_ble_eq_true rfl) dX7_order_144 rfl (by rw [ez42]; rfl) ?_
            refine x_aload_n (pc' := 148) C dX7_order_147 rfl rfl rfl ?_
            refine x_aload_n (pc' := 149) C dX7_order_148 rfl rfl rfl ?_
            refine x_get (pc' := 152) (v := .int (z42.1 15)) C 0 15 inBX7 rfl rfl (by decide) fl_X7_141 rfl rfl dX7_order_149 rfl ?_
            refine x_cv (y := 109) (by rw [ez42]; rfl) ?_
            refine x_bipush (v := 105) (pc' := 154) C dX7_order_152 rfl (by decide) ?_
            refine x_icmp_ne (tgt := 162) (pc' := 157) C dX7_order_154 (by decide) rfl (fun c43 => ?_) (fun c43 => absurd c43 (by decide))
            refine x_bipush (v := 97) (pc' := 164) C dX7_order_162 rfl (by decide) ?_
            obtain ⟨hn44, hok⟩ := hok
            obtain ⟨z45, ez45⟩ : ∃ z, z = (f_X7_sign z42 97) := ⟨_, rfl⟩
            replace hRES := bd hRES z45 ez45
            replace hok := bdP hok z45 ez45
            have hc := c_X7_sign (kl k) (kg k) h ad z42 97 hn44
            rw [← ez45] at hc
            refine x_WV (st := []) (st2 := []) (pc' := 167) C B hc cw_X7_135 ok_X7_sign rfl (by decide) 0 rfl rfl [0, 1, 2, 3, 4, 5, 6] [] [0, 1, 2, 3, 4, 5, 6] (wMo (kg k) h ad z45) rfl rfl rfl rfl (by decide) rfl rfl rfl (Nat.le_of_ble_eq_true rfl) (Nat.zero_le _) (Nat.zero_le _) rfl dX7_order_164 rfl rfl ?_
            refine x_aload_n (pc' := 168) C dX7_order_167 rfl rfl rfl ?_
            refine x_aload_n (pc' := 169) C dX7_order_168 rfl rfl rfl ?_
            refine x_get (pc' := 172) (v := .int (z45.1 15)) C 0 15 inBX7 rfl rfl (by decide) fl_X7_141 rfl rfl dX7_order_169 rfl ?_
            refine x_bipush (v := 105) (pc' := 174) C dX7_order_172 rfl (by decide) ?_
            refine x_icmp_ne (tgt := 182) (pc' := 177) C dX7_order_174 (by decide) rfl (fun c46 => ?_) (fun c46 => ?_)
            · rw [if_neg c46] at hRES
              replace hok := hok.2 c46
              refine x_bipush (v := 107) (pc' := 184) C dX7_order_182 rfl (by decide) ?_
              obtain ⟨hn47, hok⟩ := hok
              obtain ⟨z48, ez48⟩ : ∃ z, z = (f_X7_sign z45 107) := ⟨_, rfl⟩
              replace hRES := bd hRES z48 ez48
              replace hok := bdP hok z48 ez48
              have hc := c_X7_sign (kl k) (kg k) h ad z45 107 hn47
              rw [← ez48] at hc
              refine x_WV (st := []) (st2 := []) (pc' := 187) C B hc cw_X7_135 ok_X7_sign rfl (by decide) 0 rfl rfl [0, 1, 2, 3, 4, 5, 6] [] [0, 1, 2, 3, 4, 5, 6] (wMo (kg k) h ad z48) rfl rfl rfl rfl (by decide) rfl rfl rfl (Nat.le_of_ble_eq_true rfl) (Nat.zero_le _) (Nat.zero_le _) rfl dX7_order_184 rfl rfl ?_
              refine x_aload_n (pc' := 188) C dX7_order_187 rfl rfl rfl ?_
              refine x_get (pc' := 191) (v := .int (z48.1 15)) C 0 15 inBX7 rfl rfl (by decide) fl_X7_141 rfl rfl dX7_order_188 rfl ?_
              refine x_bipush (v := 109) (pc' := 193) C dX7_order_191 rfl (by decide) ?_
              refine x_icmp_ne (tgt := 202) (pc' := 196) C dX7_order_193 (by decide) rfl (fun c49 => ?_) (fun c49 => ?_)
              · rw [if_neg c49] at hRES
                replace hok := hok.2 c49
                exact join202 z48 hRES hok
              · rw [if_pos c49] at hRES
                replace hok := hok.1 c49
                refine x_aload_n (pc' := 197) C dX7_order_196 rfl rfl rfl ?_
                refine x_bipush (v := 101) (pc' := 199) C dX7_order_197 rfl (by decide) ?_
                obtain ⟨hn50, hok⟩ := hok
                obtain ⟨z51, ez51⟩ : ∃ z, z = (f_X7_sign z48 101) := ⟨_, rfl⟩
                replace hRES := bd hRES z51 ez51
                replace hok := bdP hok z51 ez51
                have hc := c_X7_sign (kl k) (kg k) h ad z48 101 hn50
                rw [← ez51] at hc
                refine x_WV (st := []) (st2 := []) (pc' := 202) C B hc cw_X7_135 ok_X7_sign rfl (by decide) 0 rfl rfl [0, 1, 2, 3, 4, 5, 6] [] [0, 1, 2, 3, 4, 5, 6] (wMo (kg k) h ad z51) rfl rfl rfl rfl (by decide) rfl rfl rfl (Nat.le_of_ble_eq_true rfl) (Nat.zero_le _) (Nat.zero_le _) rfl dX7_order_199 rfl rfl ?_
                exact join202 z51 hRES hok
            · rw [if_pos c46] at hRES
              replace hok := hok.1 c46
              refine x_bipush (v := 120) (pc' := 179) C dX7_order_177 rfl (by decide) ?_
              refine x_goto (tgt := 184) C dX7_order_179 (by decide) ?_
              obtain ⟨hn52, hok⟩ := hok
              obtain ⟨z53, ez53⟩ : ∃ z, z = (f_X7_sign z45 120) := ⟨_, rfl⟩
              replace hRES := bd hRES z53 ez53
              replace hok := bdP hok z53 ez53
              have hc := c_X7_sign (kl k) (kg k) h ad z45 120 hn52
              rw [← ez53] at hc
              refine x_WV (st := []) (st2 := []) (pc' := 187) C B hc cw_X7_135 ok_X7_sign rfl (by decide) 0 rfl rfl [0, 1, 2, 3, 4, 5, 6] [] [0, 1, 2, 3, 4, 5, 6] (wMo (kg k) h ad z53) rfl rfl rfl rfl (by decide) rfl rfl rfl (Nat.le_of_ble_eq_true rfl) (Nat.zero_le _) (Nat.zero_le _) rfl dX7_order_184 rfl rfl ?_
              refine x_aload_n (pc' := 188) C dX7_order_187 rfl rfl rfl ?_
              refine x_get (pc' := 191) (v := .int (z53.1 15)) C 0 15 inBX7 rfl rfl (by decide) fl_X7_141 rfl rfl dX7_order_188 rfl ?_
              refine x_bipush (v := 109) (pc' := 193) C dX7_order_191 rfl (by decide) ?_
              refine x_icmp_ne (tgt := 202) (pc' := 196) C dX7_order_193 (by decide) rfl (fun c54 => ?_) (fun c54 => ?_)
              · rw [if_neg c54] at hRES
                replace hok := hok.2 c54
                exact join202 z53 hRES hok
              · rw [if_pos c54] at hRES
                replace hok := hok.1 c54
                refine x_aload_n (pc' := 197) C dX7_order_196 rfl rfl rfl ?_
                refine x_bipush (v := 101) (pc' := 199) C dX7_order_197 rfl (by decide) ?_
                obtain ⟨hn55, hok⟩ := hok
                obtain ⟨z56, ez56⟩ : ∃ z, z = (f_X7_sign z53 101) := ⟨_, rfl⟩
                replace hRES := bd hRES z56 ez56
                replace hok := bdP hok z56 ez56
                have hc := c_X7_sign (kl k) (kg k) h ad z53 101 hn55
                rw [← ez56] at hc
                refine x_WV (st := []) (st2 := []) (pc' := 202) C B hc cw_X7_135 ok_X7_sign rfl (by decide) 0 rfl rfl [0, 1, 2, 3, 4, 5, 6] [] [0, 1, 2, 3, 4, 5, 6] (wMo (kg k) h ad z56) rfl rfl rfl rfl (by decide) rfl rfl rfl (Nat.le_of_ble_eq_true rfl) (Nat.zero_le _) (Nat.zero_le _) rfl dX7_order_199 rfl rfl ?_
                exact join202 z56 hRES hok
          · rw [if_pos c41] at hRES
            replace hok := hok.1 c41
            refine x_bipush (v := 105) (pc' := 139) C dX7_order_137 rfl (by decide) ?_
            refine x_goto (tgt := 144) C dX7_order_139 (by decide) ?_
            obtain ⟨z57, ez57⟩ : ∃ z, z = (setI z39 15 105) := ⟨_, rfl⟩
            replace hRES := bd hRES z57 ez57
            replace hok := bdP hok z57 ez57
            refine x_put (pc' := 147) (w' := wMo (kg k) h ad z57) (ty := .int) C B 0 15 inBX7 tyX7 tyX7_ok nmX7 rfl rfl (by decide) fl_X7_141 rfl rfl rfl rfl rfl (Nat.le_of_ble_eq_true rfl) dX7_order_144 rfl (by rw [ez57]; rfl) ?_
            refine x_aload_n (pc' := 148) C dX7_order_147 rfl rfl rfl ?_
            refine x_aload_n (pc' := 149) C dX7_order_148 rfl rfl rfl ?_
            refine x_get (pc' := 152) (v := .int (z57.1 15)) C 0 15 inBX7 rfl rfl (by decide) fl_X7_141 rfl rfl dX7_order_149 rfl ?_
            refine x_cv (y := 105) (by rw [ez57]; rfl) ?_
            refine x_bipush (v := 105) (pc' := 154) C dX7_order_152 rfl (by decide) ?_
            refine x_icmp_ne (tgt := 162) (pc' := 157) C dX7_order_154 (by decide) rfl (fun c58 => absurd c58 (by decide)) (fun c58 => ?_)
            refine x_bipush (v := 105) (pc' := 159) C dX7_order_157 rfl (by decide) ?_
            refine x_goto (tgt := 164) C dX7_order_159 (by decide) ?_
            obtain ⟨hn59, hok⟩ := hok
            obtain ⟨z60, ez60⟩ : ∃ z, z = (f_X7_sign z57 105) := ⟨_, rfl⟩
            replace hRES := bd hRES z60 ez60
            replace hok := bdP hok z60 ez60
            have hc := c_X7_sign (kl k) (kg k) h ad z57 105 hn59
            rw [← ez60] at hc
            refine x_WV (st := []) (st2 := []) (pc' := 167) C B hc cw_X7_135 ok_X7_sign rfl (by decide) 0 rfl rfl [0, 1, 2, 3, 4, 5, 6] [] [0, 1, 2, 3, 4, 5, 6] (wMo (kg k) h ad z60) rfl rfl rfl rfl (by decide) rfl rfl rfl (Nat.le_of_ble_eq_true rfl) (Nat.zero_le _) (Nat.zero_le _) rfl dX7_order_164 rfl rfl ?_
            refine x_aload_n (pc' := 168) C dX7_order_167 rfl rfl rfl ?_
            refine x_aload_n (pc' := 169) C dX7_order_168 rfl rfl rfl ?_
            refine x_get (pc' := 172) (v := .int (z60.1 15)) C 0 15 inBX7 rfl rfl (by decide) fl_X7_141 rfl rfl dX7_order_169 rfl ?_
            refine x_bipush (v := 105) (pc' := 174) C dX7_order_172 rfl (by decide) ?_
            refine x_icmp_ne (tgt := 182) (pc' := 177) C dX7_order_174 (by decide) rfl (fun c61 => ?_) (fun c61 => ?_)
            · rw [if_neg c61] at hRES
              replace hok := hok.2 c61
              refine x_bipush (v := 107) (pc' := 184) C dX7_order_182 rfl (by decide) ?_
              obtain ⟨hn62, hok⟩ := hok
              obtain ⟨z63, ez63⟩ : ∃ z, z = (f_X7_sign z60 107) := ⟨_, rfl⟩
              replace hRES := bd hRES z63 ez63
              replace hok := bdP hok z63 ez63
              have hc := c_X7_sign (kl k) (kg k) h ad z60 107 hn62
              rw [← ez63] at hc
              refine x_WV (st := []) (st2 := []) (pc' := 187) C B hc cw_X7_135 ok_X7_sign rfl (by decide) 0 rfl rfl [0, 1, 2, 3, 4, 5, 6] [] [0, 1, 2, 3, 4, 5, 6] (wMo (kg k) h ad z63) rfl rfl rfl rfl (by decide) rfl rfl rfl (Nat.le_of_ble_eq_true rfl) (Nat.zero_le _) (Nat.zero_le _) rfl dX7_order_184 rfl rfl ?_
              refine x_aload_n (pc' := 188) C dX7_order_187 rfl rfl rfl ?_
              refine x_get (pc' := 191) (v := .int (z63.1 15)) C 0 15 inBX7 rfl rfl (by decide) fl_X7_141 rfl rfl dX7_order_188 rfl ?_
              refine x_bipush (v := 109) (pc' := 193) C dX7_order_191 rfl (by decide) ?_
              refine x_icmp_ne (tgt := 202) (pc' := 196) C dX7_order_193 (by decide) rfl (fun c64 => ?_) (fun c64 => ?_)
              · rw [if_neg c64] at hRES
                replace hok := hok.2 c64
                exact join202 z63 hRES hok
              · rw [if_pos c64] at hRES
                replace hok := hok.1 c64
                refine x_aload_n (pc' := 197) C dX7_order_196 rfl rfl rfl ?_
                refine x_bipush (v := 101) (pc' := 199) C dX7_order_197 rfl (by decide) ?_
                obtain ⟨hn65, hok⟩ := hok
                obtain ⟨z66, ez66⟩ : ∃ z, z = (f_X7_sign z63 101) := ⟨_, rfl⟩
                replace hRES := bd hRES z66 ez66
                replace hok := bdP hok z66 ez66
                have hc := c_X7_sign (kl k) (kg k) h ad z63 101 hn65
                rw [← ez66] at hc
                refine x_WV (st := []) (st2 := []) (pc' := 202) C B hc cw_X7_135 ok_X7_sign rfl (by decide) 0 rfl rfl [0, 1, 2, 3, 4, 5, 6] [] [0, 1, 2, 3, 4, 5, 6] (wMo (kg k) h ad z66) rfl rfl rfl rfl (by decide) rfl rfl rfl (Nat.le_of_ble_eq_true rfl) (Nat.zero_le _) (Nat.zero_le _) rfl dX7_order_199 rfl rfl ?_
                exact join202 z66 hRES hok
            · rw [if_pos c61] at hRES
              replace hok := hok.1 c61
              refine x_bipush (v := 120) (pc' := 179) C dX7_order_177 rfl (by decide) ?_
              refine x_goto (tgt := 184) C dX7_order_179 (by decide) ?_
              obtain ⟨hn67, hok⟩ := hok
              obtain ⟨z68, ez68⟩ : ∃ z, z = (f_X7_sign z60 120) := ⟨_, rfl⟩
              replace hRES := bd hRES z68 ez68
              replace hok := bdP hok z68 ez68
              have hc := c_X7_sign (kl k) (kg k) h ad z60 120 hn67
              rw [← ez68] at hc
              refine x_WV (st := []) (st2 := []) (pc' := 187) C B hc cw_X7_135 ok_X7_sign rfl (by decide) 0 rfl rfl [0, 1, 2, 3, 4, 5, 6] [] [0, 1, 2, 3, 4, 5, 6] (wMo (kg k) h ad z68) rfl rfl rfl rfl (by decide) rfl rfl rfl (Nat.le_of_ble_eq_true rfl) (Nat.zero_le _) (Nat.zero_le _) rfl dX7_order_184 rfl rfl ?_
              refine x_aload_n (pc' := 188) C dX7_order_187 rfl rfl rfl ?_
              refine x_get (pc' := 191) (v := .int (z68.1 15)) C 0 15 inBX7 rfl rfl (by decide) fl_X7_141 rfl rfl dX7_order_188 rfl ?_
              refine x_bipush (v := 109) (pc' := 193) C dX7_order_191 rfl (by decide) ?_
              refine x_icmp_ne (tgt := 202) (pc' := 196) C dX7_order_193 (by decide) rfl (fun c69 => ?_) (fun c69 => ?_)
              · rw [if_neg c69] at hRES
                replace hok := hok.2 c69
                exact join202 z68 hRES hok
              · rw [if_pos c69] at hRES
                replace hok := hok.1 c69
                refine x_aload_n (pc' := 197) C dX7_order_196 rfl rfl rfl ?_
                refine x_bipush (v := 101) (pc' := 199) C dX7_order_197 rfl (by decide) ?_
                obtain ⟨hn70, hok⟩ := hok
                obtain ⟨z71, ez71⟩ : ∃ z, z = (f_X7_sign z68 101) := ⟨_, rfl⟩
                replace hRES := bd hRES z71 ez71
                replace hok := bdP hok z71 ez71
                have hc := c_X7_sign (kl k) (kg k) h ad z68 101 hn70
                rw [← ez71] at hc
                refine x_WV (st := []) (st2 := []) (pc' := 202) C B hc cw_X7_135 ok_X7_sign rfl (by decide) 0 rfl rfl [0, 1, 2, 3, 4, 5, 6] [] [0, 1, 2, 3, 4, 5, 6] (wMo (kg k) h ad z71) rfl rfl rfl rfl (by decide) rfl rfl rfl (Nat.le_of_ble_eq_true rfl) (Nat.zero_le _) (Nat.zero_le _) rfl dX7_order_199 rfl rfl ?_
                exact join202 z71 hRES hok
  refine x_aload_n (pc' := 1) C dX7_order_0 rfl rfl rfl ?_
  refine x_aload_n (pc' := 2) C dX7_order_1 rfl rfl rfl ?_
  refine x_get (pc' := 5) (v := .int (S.1 13)) C 0 13 inBX7 rfl rfl (by decide) fl_X7_132 rfl rfl dX7_order_2 rfl ?_
  refine x_aload_n (pc' := 6) C dX7_order_5 rfl rfl rfl ?_
  refine x_get (pc' := 9) (v := .int (S.1 7)) C 0 7 inBX7 rfl rfl (by decide) fl_X7_125 rfl rfl dX7_order_6 rfl ?_
  refine x_icmp_ge (tgt := 24) (pc' := 12) C dX7_order_9 (by decide) rfl (fun c72 => ?_) (fun c72 => ?_)
  · rw [if_neg c72] at hRES
    replace hok := hok.2 c72
    refine x_iconst (v := 0) (pc' := 25) C dX7_order_24 rfl (by decide) ?_
    obtain ⟨z73, ez73⟩ : ∃ z, z = (setI S 15 0) := ⟨_, rfl⟩
    replace hRES := bd hRES z73 ez73
    replace hok := bdP hok z73 ez73
    refine x_put (pc' := 28) (w' := wMo (kg k) h ad z73) (ty := .int) C B 0 15 inBX7 tyX7 tyX7_ok nmX7 rfl rfl (by decide) fl_X7_141 rfl rfl rfl rfl rfl (Nat.le_of_ble_eq_true rfl) dX7_order_25 rfl (by rw [ez73]; rfl) ?_
    exact join28 z73 hRES hok
  · rw [if_pos c72] at hRES
    replace hok := hok.1 c72
    refine x_aload_n (pc' := 13) C dX7_order_12 rfl rfl rfl ?_
    refine x_get (pc' := 16) (v := .ref (ad 6)) C 0 6 inBX7 rfl rfl (by decide) fl_X7_22 rfl rfl dX7_order_13 rfl ?_
    refine x_aload_n (pc' := 17) C dX7_order_16 rfl rfl rfl ?_
    refine x_get (pc' := 20) (v := .int (S.1 13)) C 0 13 inBX7 rfl rfl (by decide) fl_X7_132 rfl rfl dX7_order_17 rfl ?_
    obtain ⟨hn74, hok⟩ := hok
    refine x_iald (pc' := 21) (f := S.2 6) (v := ((S.2 6) (S.1 13).toNatClampNeg)) C 5 rfl hn74 rfl dX7_order_20 rfl ?_
    refine x_goto (tgt := 25) C dX7_order_21 (by decide) ?_
    obtain ⟨z75, ez75⟩ : ∃ z, z = (setI S 15 ((S.2 6) (S.1 13).toNatClampNeg)) := ⟨_, rfl⟩
    replace hRES := bd hRES z75 ez75
    replace hok := bdP hok z75 ez75
    refine x_put (pc' := 28) (w' := wMo (kg k) h ad z75) (ty := .int) C B 0 15 inBX7 tyX7 tyX7_ok nmX7 rfl rfl (by decide) fl_X7_141 rfl rfl rfl rfl rfl (Nat.le_of_ble_eq_true rfl) dX7_order_25 rfl (by rw [ez75]; rfl) ?_
    exact join28 z75 hRES hok

def f_X7_does (S : CS) : Int32 × CS := (if S.1 15 = 97 then (bind1 (f_X7_asks S (S.1 16)) (fun z3 => (z3.1, z3.2))) else (if S.1 15 = 105 then (bind1 (f_X7_mixes S (S.1 16) (S.1 17) (S.1 18)) (fun z6 => (z6.1, z6.2))) else (if S.1 15 = 106 then (bind1 (f_X7_joins S (S.1 16)) (fun z9 => (z9.1, z9.2))) else (if S.1 15 = 114 then (bind1 (f_X7_roots S (S.1 16)) (fun z12 => (z12.1, z12.2))) else (bind1 (f_X7_makes S (S.1 16) (S.1 17) (S.1 18)) (fun z14 => (z14.1, z14.2)))))))
def o_X7_does (S : CS) : Prop := ((S.1 15 = 97 → ((o_X7_asks S (S.1 16)) ∧ (bind1 (f_X7_asks S (S.1 16)) (fun z3 => True)))) ∧ (¬ (S.1 15 = 97) → ((S.1 15 = 105 → ((o_X7_mixes S (S.1 16) (S.1 17) (S.1 18)) ∧ (bind1 (f_X7_mixes S (S.1 16) (S.1 17) (S.1 18)) (fun z6 => True)))) ∧ (¬ (S.1 15 = 105) → ((S.1 15 = 106 → ((o_X7_joins S (S.1 16)) ∧ (bind1 (f_X7_joins S (S.1 16)) (fun z9 => True)))) ∧ (¬ (S.1 15 = 106) → ((S.1 15 = 114 → ((o_X7_roots S (S.1 16)) ∧ (bind1 (f_X7_roots S (S.1 16)) (fun z12 => True)))) ∧ (¬ (S.1 15 = 114) → ((o_X7_makes S (S.1 16) (S.1 17) (S.1 18)) ∧ (bind1 (f_X7_makes S (S.1 16) (S.1 17) (S.1 18)) (fun z14 => True)))))))))))
set_option maxRecDepth 100000 in
set_option maxHeartbeats 8000000 in
theorem c_X7_does (l : Launch) (g : GT) (h : Nat) (ad : Nat → Nat) (S : CS) (hok : o_X7_does S) : CW l yX7_does (.code yX7_does cX7_does 1 (some .int)) 6 g [.ref h] (wMo g h ad S) (some (.int (f_X7_does S).1)) (wMo g h ad (f_X7_does S).2) := by
  obtain ⟨RES, hRES⟩ : ∃ z, z = (f_X7_does S) := ⟨_, rfl⟩
  rw [← hRES]
  unfold f_X7_does at hRES
  unfold o_X7_does at hok
  refine CWx.of (nL := 1) (ret := (some .int)) (own := RX7) (cc := cX7_does) rfl (by decide) rfl (List.forall_mem_cons.mpr ⟨rfl, (fun _ h => absurd h List.not_mem_nil)⟩) (Nat.le_of_ble_eq_true rfl) ?_
  intro k C B hin hkl hkg
  subst hkl; subst hkg
  refine x_loc2 (L' := [some (.ref h)]) rfl ?_
  refine x_aload_n (pc' := 1) C dX7_does_0 rfl rfl rfl ?_
  refine x_get (pc' := 4) (v := .int (S.1 15)) C 0 15 inBX7 rfl rfl (by decide) fl_X7_141 rfl rfl dX7_does_1 rfl ?_
  by_cases c1 : S.1 15 = 97
  · rw [if_pos c1] at hRES
    replace hok := hok.1 c1
    refine x_lookup (off := 44) (tgt := 48) C dX7_does_4 (by decide) (by rw [c1]; decide) (by decide) ?_
    refine x_aload_n (pc' := 49) C dX7_does_48 rfl rfl rfl ?_
    refine x_aload_n (pc' := 50) C dX7_does_49 rfl rfl rfl ?_
    refine x_get (pc' := 53) (v := .int (S.1 16)) C 0 16 inBX7 rfl rfl (by decide) fl_X7_151 rfl rfl dX7_does_50 rfl ?_
    obtain ⟨hn2, hok⟩ := hok
    obtain ⟨z3, ez3⟩ : ∃ z, z = (f_X7_asks S (S.1 16)) := ⟨_, rfl⟩
    replace hRES := bd hRES z3 ez3
    replace hok := bdP hok z3 ez3
    have hc := c_X7_asks (kl k) (kg k) h ad S (S.1 16) hn2
    rw [← ez3] at hc
    refine x_WV (st := []) (st2 := [.int z3.1]) (pc' := 56) C B hc cw_X7_110 ok_X7_asks rfl (by decide) 0 rfl rfl [0, 1, 2, 3, 4, 5, 6] [] [0, 1, 2, 3, 4, 5, 6] (wMo (kg k) h ad z3.2) rfl rfl rfl rfl (by decide) rfl rfl rfl (Nat.le_of_ble_eq_true rfl) (Nat.zero_le _) (Nat.zero_le _) rfl dX7_does_53 rfl rfl ?_
    exact x_iret C (Nat.zero_le _) (Nat.zero_le _) dX7_does_56 ⟨by rw [hRES], by rw [hRES]⟩
  · rw [if_neg c1] at hRES
    replace hok := hok.2 c1
    by_cases c4 : S.1 15 = 105
    · rw [if_pos c4] at hRES
      replace hok := hok.1 c4
      refine x_lookup (off := 71) (tgt := 75) C dX7_does_4 (by decide) (by rw [c4]; decide) (by decide) ?_
      refine x_aload_n (pc' := 76) C dX7_does_75 rfl rfl rfl ?_
      refine x_aload_n (pc' := 77) C dX7_does_76 rfl rfl rfl ?_
      refine x_get (pc' := 80) (v := .int (S.1 16)) C 0 16 inBX7 rfl rfl (by decide) fl_X7_151 rfl rfl dX7_does_77 rfl ?_
      refine x_aload_n (pc' := 81) C dX7_does_80 rfl rfl rfl ?_
      refine x_get (pc' := 84) (v := .int (S.1 17)) C 0 17 inBX7 rfl rfl (by decide) fl_X7_154 rfl rfl dX7_does_81 rfl ?_
      refine x_aload_n (pc' := 85) C dX7_does_84 rfl rfl rfl ?_
      refine x_get (pc' := 88) (v := .int (S.1 18)) C 0 18 inBX7 rfl rfl (by decide) fl_X7_157 rfl rfl dX7_does_85 rfl ?_
      obtain ⟨hn5, hok⟩ := hok
      obtain ⟨z6, ez6⟩ : ∃ z, z = (f_X7_mixes S (S.1 16) (S.1 17) (S.1 18)) := ⟨_, rfl⟩
      replace hRES := bd hRES z6 ez6
      replace hok := bdP hok z6 ez6
      have hc := c_X7_mixes (kl k) (kg k) h ad S (S.1 16) (S.1 17) (S.1 18) hn5
      rw [← ez6] at hc
      refine x_WV (st := []) (st2 := [.int z6.1]) (pc' := 91) C B hc cw_X7_104 ok_X7_mixes rfl (by decide) 0 rfl rfl [0, 1, 2, 3, 4, 5, 6] [] [0, 1, 2, 3, 4, 5, 6] (wMo (kg k) h ad z6.2) rfl rfl rfl rfl (by decide) rfl rfl rfl (Nat.le_of_ble_eq_true rfl) (Nat.zero_le _) (Nat.zero_le _) rfl dX7_does_88 rfl rfl ?_
      exact x_iret C (Nat.zero_le _) (Nat.zero_le _) dX7_does_91 ⟨by rw [hRES], by rw [hRES]⟩
    · rw [if_neg c4] at hRES
      replace hok := hok.2 c4
      by_cases c7 : S.1 15 = 106
      · rw [if_pos c7] at hRES
        replace hok := hok.1 c7
        refine x_lookup (off := 62) (tgt := 66) C dX7_does_4 (by decide) (by rw [c7]; decide) (by decide) ?_
        refine x_aload_n (pc' := 67) C dX7_does_66 rfl rfl rfl ?_
        refine x_aload_n (pc' := 68) C dX7_does_67 rfl rfl rfl ?_
        refine x_get (pc' := 71) (v := .int (S.1 16)) C 0 16 inBX7 rfl rfl (by decide) fl_X7_151 rfl rfl dX7_does_68 rfl ?_
        obtain ⟨hn8, hok⟩ := hok
        obtain ⟨z9, ez9⟩ : ∃ z, z = (f_X7_joins S (S.1 16)) := ⟨_, rfl⟩
        replace hRES := bd hRES z9 ez9
        replace hok := bdP hok z9 ez9
        have hc := c_X7_joins (kl k) (kg k) h ad S (S.1 16) hn8
        rw [← ez9] at hc
        refine x_WV (st := []) (st2 := [.int z9.1]) (pc' := 74) C B hc cw_X7_119 ok_X7_joins rfl (by decide) 0 rfl rfl [0, 1, 2, 3, 4, 5, 6] [] [0, 1, 2, 3, 4, 5, 6] (wMo (kg k) h ad z9.2) rfl rfl rfl rfl (by decide) rfl rfl rfl (Nat.le_of_ble_eq_true rfl) (Nat.zero_le _) (Nat.zero_le _) rfl dX7_does_71 rfl rfl ?_
        exact x_iret C (Nat.zero_le _) (Nat.zero_le _) dX7_does_74 ⟨by rw [hRES], by rw [hRES]⟩
      · rw [if_neg c7] at hRES
        replace hok := hok.2 c7
        by_cases c10 : S.1 15 = 114
        · rw [if_pos c10] at hRES
          replace hok := hok.1 c10
          refine x_lookup (off := 53) (tgt := 57) C dX7_does_4 (by decide) (by rw [c10]; decide) (by decide) ?_
          refine x_aload_n (pc' := 58) C dX7_does_57 rfl rfl rfl ?_
          refine x_aload_n (pc' := 59) C dX7_does_58 rfl rfl rfl ?_
          refine x_get (pc' := 62) (v := .int (S.1 16)) C 0 16 inBX7 rfl rfl (by decide) fl_X7_151 rfl rfl dX7_does_59 rfl ?_
          obtain ⟨hn11, hok⟩ := hok
          obtain ⟨z12, ez12⟩ : ∃ z, z = (f_X7_roots S (S.1 16)) := ⟨_, rfl⟩
          replace hRES := bd hRES z12 ez12
          replace hok := bdP hok z12 ez12
          have hc := c_X7_roots (kl k) (kg k) h ad S (S.1 16) hn11
          rw [← ez12] at hc
          refine x_WV (st := []) (st2 := [.int z12.1]) (pc' := 65) C B hc cw_X7_113 ok_X7_roots rfl (by decide) 0 rfl rfl [0, 1, 2, 3, 4, 5, 6] [] [0, 1, 2, 3, 4, 5, 6] (wMo (kg k) h ad z12.2) rfl rfl rfl rfl (by decide) rfl rfl rfl (Nat.le_of_ble_eq_true rfl) (Nat.zero_le _) (Nat.zero_le _) rfl dX7_does_62 rfl rfl ?_
          exact x_iret C (Nat.zero_le _) (Nat.zero_le _) dX7_does_65 ⟨by rw [hRES], by rw [hRES]⟩
        · rw [if_neg c10] at hRES
          replace hok := hok.2 c10
          refine x_lookup (off := 88) (tgt := 92) C dX7_does_4 (by decide) (by show Op.lookupswitch.offset [(97, 44), (105, 71), (106, 62), (114, 53)] 88 _ = _; rw [lv_osw c1 (by decide), lv_osw c4 (by decide), lv_osw c7 (by decide), lv_osw c10 (by decide)]; rfl) (by decide) ?_
          refine x_aload_n (pc' := 93) C dX7_does_92 rfl rfl rfl ?_
          refine x_aload_n (pc' := 94) C dX7_does_93 rfl rfl rfl ?_
          refine x_get (pc' := 97) (v := .int (S.1 16)) C 0 16 inBX7 rfl rfl (by decide) fl_X7_151 rfl rfl dX7_does_94 rfl ?_
          refine x_aload_n (pc' := 98) C dX7_does_97 rfl rfl rfl ?_
          refine x_get (pc' := 101) (v := .int (S.1 17)) C 0 17 inBX7 rfl rfl (by decide) fl_X7_154 rfl rfl dX7_does_98 rfl ?_
          refine x_aload_n (pc' := 102) C dX7_does_101 rfl rfl rfl ?_
          refine x_get (pc' := 105) (v := .int (S.1 18)) C 0 18 inBX7 rfl rfl (by decide) fl_X7_157 rfl rfl dX7_does_102 rfl ?_
          obtain ⟨hn13, hok⟩ := hok
          obtain ⟨z14, ez14⟩ : ∃ z, z = (f_X7_makes S (S.1 16) (S.1 17) (S.1 18)) := ⟨_, rfl⟩
          replace hRES := bd hRES z14 ez14
          replace hok := bdP hok z14 ez14
          have hc := c_X7_makes (kl k) (kg k) h ad S (S.1 16) (S.1 17) (S.1 18) hn13
          rw [← ez14] at hc
          refine x_WV (st := []) (st2 := [.int z14.1]) (pc' := 108) C B hc cw_X7_97 ok_X7_makes rfl (by decide) 0 rfl rfl [0, 1, 2, 3, 4, 5, 6] [] [0, 1, 2, 3, 4, 5, 6] (wMo (kg k) h ad z14.2) rfl rfl rfl rfl (by decide) rfl rfl rfl (Nat.le_of_ble_eq_true rfl) (Nat.zero_le _) (Nat.zero_le _) rfl dX7_does_105 rfl rfl ?_
          exact x_iret C (Nat.zero_le _) (Nat.zero_le _) dX7_does_108 ⟨by rw [hRES], by rw [hRES]⟩

def k_X7_go_115 (S_115 : CS) (i2_115 : Nat) : Int32 × CS := ((nI i2_115), S_115)
def ok_X7_go_115 (S_115 : CS) (i2_115 : Nat) : Prop := True
def l_X7_go_14 (a1 : Int32) : Nat → CS → Nat → Int32 → Int32 × CS
  | 0, _, _, _ => (0, dfCS)
  | n14 + 1, S_14, i2_14, x3_14 => (if x3_14 = 0 then (k_X7_go_115 S_14 i2_14) else (bind1 (f_X7_order S_14) (fun z5 => (if a1 = 0 then (if z5.1 14 = 0 then (if z5.1 13 < z5.1 7 then (bind1 (f_X7_sign z5 59) (fun z14 => (if z14.1 14 = 0 then (l_X7_go_14 a1 n14 z14 (i2_14 + 1) 1) else (l_X7_go_14 a1 n14 z14 (i2_14 + 1) 0)))) else (l_X7_go_14 a1 n14 z5 (i2_14 + 1) 0)) else (l_X7_go_14 a1 n14 z5 (i2_14 + 1) 0)) else (bind1 (f_X7_does z5) (fun z17 => (if z17.1 < 0 then (if z17.1 = (-5) then (if z17.2.1 14 = 0 then (if z17.2.1 13 < z17.2.1 7 then (bind1 (f_X7_sign z17.2 59) (fun z34 => (if z34.1 14 = 0 then (l_X7_go_14 a1 n14 z34 (i2_14 + 1) 1) else (l_X7_go_14 a1 n14 z34 (i2_14 + 1) 0)))) else (l_X7_go_14 a1 n14 z17.2 (i2_14 + 1) 0)) else (l_X7_go_14 a1 n14 z17.2 (i2_14 + 1) 0)) else (bind1 (setI z17.2 8 (nI i2_14)) (fun z36 => (bind1 (setI z36 9 z17.1) (fun z37 => ((-4), z37)))))) else (if z17.2.1 14 = 0 then (if z17.2.1 13 < z17.2.1 7 then (bind1 (f_X7_sign z17.2 59) (fun z25 => (if z25.1 14 = 0 then (l_X7_go_14 a1 n14 z25 (i2_14 + 1) 1) else (l_X7_go_14 a1 n14 z25 (i2_14 + 1) 0)))) else (l_X7_go_14 a1 n14 z17.2 (i2_14 + 1) 0)) else (l_X7_go_14 a1 n14 z17.2 (i2_14 + 1) 0)))))))))
def ol_X7_go_14 (a1 : Int32) : Nat → CS → Nat → Int32 → Prop
  | 0, _, _, _ => False
  | n14 + 1, S_14, i2_14, x3_14 => ((x3_14 = 0 → (ok_X7_go_115 S_14 i2_14)) ∧ (¬ (x3_14 = 0) → ((o_X7_order S_14) ∧ (bind1 (f_X7_order S_14) (fun z5 => ((a1 = 0 → ((z5.1 14 = 0 → ((z5.1 13 < z5.1 7 → ((o_X7_sign z5 59) ∧ (bind1 (f_X7_sign z5 59) (fun z14 => ((z14.1 14 = 0 → (ol_X7_go_14 a1 n14 z14 (i2_14 + 1) 1)) ∧ (¬ (z14.1 14 = 0) → (ol_X7_go_14 a1 n14 z14 (i2_14 + 1) 0))))))) ∧ (¬ (z5.1 13 < z5.1 7) → (ol_X7_go_14 a1 n14 z5 (i2_14 + 1) 0)))) ∧ (¬ (z5.1 14 = 0) → (ol_X7_go_14 a1 n14 z5 (i2_14 + 1) 0)))) ∧ (¬ (a1 = 0) → ((o_X7_does z5) ∧ (bind1 (f_X7_does z5) (fun z17 => ((z17.1 < 0 → ((z17.1 = (-5) → ((z17.2.1 14 = 0 → ((z17.2.1 13 < z17.2.1 7 → ((o_X7_sign z17.2 59) ∧ (bind1 (f_X7_sign z17.2 59) (fun z34 => ((z34.1 14 = 0 → (ol_X7_go_14 a1 n14 z34 (i2_14 + 1) 1)) ∧ (¬ (z34.1 14 = 0) → (ol_X7_go_14 a1 n14 z34 (i2_14 + 1) 0))))))) ∧ (¬ (z17.2.1 13 < z17.2.1 7) → (ol_X7_go_14 a1 n14 z17.2 (i2_14 + 1) 0)))) ∧ (¬ (z17.2.1 14 = 0) → (ol_X7_go_14 a1 n14 z17.2 (i2_14 + 1) 0)))) ∧ (¬ (z17.1 = (-5)) → (bind1 (setI z17.2 8 (nI i2_14)) (fun z36 => (bind1 (setI z36 9 z17.1) (fun z37 => True))))))) ∧ (¬ (z17.1 < 0) → ((z17.2.1 14 = 0 → ((z17.2.1 13 < z17.2.1 7 → ((o_X7_sign z17.2 59) ∧ (bind1 (f_X7_sign z17.2 59) (fun z25 => ((z25.1 14 = 0 → (ol_X7_go_14 a1 n14 z25 (i2_14 + 1) 1)) ∧ (¬ (z25.1 14 = 0) → (ol_X7_go_14 a1 n14 z25 (i2_14 + 1) 0))))))) ∧ (¬ (z17.2.1 13 < z17.2.1 7) → (ol_X7_go_14 a1 n14 z17.2 (i2_14 + 1) 0)))) ∧ (¬ (z17.2.1 14 = 0) → (ol_X7_go_14 a1 n14 z17.2 (i2_14 + 1) 0)))))))))))))))
def f_X7_go (S : CS) (a1 : Int32) : Int32 × CS := (bind1 (setI S 13 0) (fun z1 => (bind1 (setI z1 14 0) (fun z2 => (l_X7_go_14 a1 82 z2 0 1)))))
def o_X7_go (S : CS) (a1 : Int32) : Prop := (bind1 (setI S 13 0) (fun z1 => (bind1 (setI z1 14 0) (fun z2 => (ol_X7_go_14 a1 82 z2 0 1)))))
set_option maxRecDepth 100000 in
set_option maxHeartbeats 8000000 in
theorem c_X7_go (l : Launch) (g : GT) (h : Nat) (ad : Nat → Nat) (S : CS) (a1 : Int32) (hok : o_X7_go S a1) : CW l yX7_go (.code yX7_go cX7_go 5 (some .int)) 7 g [.ref h, .int a1] (wMo g h ad S) (some (.int (f_X7_go S a1).1)) (wMo g h ad (f_X7_go S a1).2) := by
  obtain ⟨RES, hRES⟩ : ∃ z, z = (f_X7_go S a1) := ⟨_, rfl⟩
  rw [← hRES]
  unfold f_X7_go at hRES
  unfold o_X7_go at hok
  refine CWx.of (nL := 5) (ret := (some .int)) (own := RX7) (cc := cX7_go) rfl (by decide) rfl (List.forall_mem_cons.mpr ⟨rfl, (List.forall_mem_cons.mpr ⟨rfl, (fun _ h => absurd h List.not_mem_nil)⟩)⟩) (Nat.le_of_ble_eq_true rfl) ?_
  intro k C B hin hkl hkg
  subst hkl; subst hkg
  refine x_loc2 (L' := [some (.ref h), some (.int a1), none, none, none]) rfl ?_
  refine x_aload_n (pc' := 1) C dX7_go_0 rfl rfl rfl ?_
  refine x_iconst (v := 0) (pc' := 2) C dX7_go_1 rfl (by decide) ?_
  obtain ⟨z1, ez1⟩ : ∃ z, z = (setI S 13 0) := ⟨_, rfl⟩
  replace hRES := bd hRES z1 ez1
  replace hok := bdP hok z1 ez1
  refine x_put (pc' := 5) (w' := wMo (kg k) h ad z1) (ty := .int) C B 0 13 inBX7 tyX7 tyX7_ok nmX7 rfl rfl (by decide) fl_X7_132 rfl rfl rfl rfl rfl (Nat.le_of_ble_eq_true rfl) dX7_go_2 rfl (by rw [ez1]; rfl) ?_
  refine x_aload_n (pc' := 6) C dX7_go_5 rfl rfl rfl ?_
  refine x_iconst (v := 0) (pc' := 7) C dX7_go_6 rfl (by decide) ?_
  obtain ⟨z2, ez2⟩ : ∃ z, z = (setI z1 14 0) := ⟨_, rfl⟩
  replace hRES := bd hRES z2 ez2
  replace hok := bdP hok z2 ez2
  refine x_put (pc' := 10) (w' := wMo (kg k) h ad z2) (ty := .boolean) C B 0 14 inBX7 tyX7 tyX7_ok nmX7 rfl rfl (by decide) fl_X7_128 rfl rfl rfl rfl rfl (Nat.le_of_ble_eq_true rfl) dX7_go_7 rfl (by rw [ez2]; rfl) ?_
  refine x_iconst (v := 0) (pc' := 11) C dX7_go_10 rfl (by decide) ?_
  refine x_istore_n (pc' := 12) (L' := [some (.ref h), some (.int a1), some (.int 0), none, none]) C dX7_go_11 rfl rfl (Nat.le_of_ble_eq_true rfl) rfl ?_
  refine x_iconst (v := 1) (pc' := 13) C dX7_go_12 rfl (by decide) ?_
  refine x_istore_n (pc' := 14) (L' := [some (.ref h), some (.int a1), some (.int 0), some (.int 1), none]) C dX7_go_13 rfl rfl (Nat.le_of_ble_eq_true rfl) rfl ?_
  have cont115 : ∀ (S_115 : CS) (i2_115 : Nat), RES = k_X7_go_115 S_115 i2_115 → ok_X7_go_115 S_115 i2_115 → X k 0 0 (wMo (kg k) h ad S_115) 115 [none, none, some (.int (nI i2_115)), none, none] [] := by
    intro S_115 i2_115 hRES hok
    unfold k_X7_go_115 at hRES
    unfold ok_X7_go_115 at hok
    refine x_iload_n (pc' := 116) C dX7_go_115 rfl rfl rfl ?_
    exact x_iret C (Nat.zero_le _) (Nat.zero_le _) dX7_go_116 ⟨by rw [hRES], by rw [hRES]⟩
  have loop14 : ∀ (n14 : Nat) (S_14 : CS) (i2_14 : Nat) (x3_14 : Int32), RES = l_X7_go_14 a1 n14 S_14 i2_14 x3_14 → ol_X7_go_14 a1 n14 S_14 i2_14 x3_14 → X k 0 0 (wMo (kg k) h ad S_14) 14 [some (.ref h), some (.int a1), some (.int (nI i2_14)), some (.int x3_14), none] [] := by
    intro n14
    induction n14 with
    | zero =>
      intro S_14 i2_14 x3_14 hRES hok
      exact (show False from hok).elim
    | succ n14 ih14 =>
      intro S_14 i2_14 x3_14 hRES hok
      rw [l_X7_go_14] at hRES
      rw [ol_X7_go_14] at hok
      refine x_iload_n (pc' := 15) C dX7_go_14 rfl rfl rfl ?_
      refine x_if_eq (tgt := 115) (pc' := 18) C dX7_go_15 (by decide) rfl (fun c3 => ?_) (fun c3 => ?_)
      · rw [if_pos c3] at hRES
        replace hok := hok.1 c3
        refine x_forget (L' := [none, none, some (.int (nI i2_14)), none, none]) [2] rfl rfl ?_
        exact cont115 S_14 i2_14 hRES hok
      · rw [if_neg c3] at hRES
        replace hok := hok.2 c3
        refine x_aload_n (pc' := 19) C dX7_go_18 rfl rfl rfl ?_
        obtain ⟨hn4, hok⟩ := hok
        obtain ⟨z5, ez5⟩ : ∃ z, z = (f_X7_order S_14) := ⟨_, rfl⟩
        replace hRES := bd hRES z5 ez5
        replace hok := bdP hok z5 ez5
        have hc := c_X7_order (kl k) (kg k) h ad S_14 hn4
        rw [← ez5] at hc
        refine x_WV (st := []) (st2 := []) (pc' := 22) C B hc cw_X7_163 ok_X7_order rfl (by decide) 0 rfl rfl [0, 1, 2, 3, 4, 5, 6] [] [0, 1, 2, 3, 4, 5, 6] (wMo (kg k) h ad z5) rfl rfl rfl rfl (by decide) rfl rfl rfl (Nat.le_of_ble_eq_true rfl) (Nat.zero_le _) (Nat.zero_le _) rfl dX7_go_19 rfl rfl ?_
        refine x_iload_n (pc' := 23) C dX7_go_22 rfl rfl rfl ?_
        refine x_if_eq (tgt := 33) (pc' := 26) C dX7_go_23 (by decide) rfl (fun c6 => ?_) (fun c6 => ?_)
        · rw [if_pos c6] at hRES
          replace hok := hok.1 c6
          refine x_iconst (v := 0) (pc' := 34) C dX7_go_33 rfl (by decide) ?_
          refine x_istore (pc' := 36) (L' := [some (.ref h), some (.int a1), some (.int (nI i2_14)), some (.int x3_14), some (.int 0)]) C dX7_go_34 rfl (Nat.le_of_ble_eq_true rfl) rfl ?_
          refine x_iload (pc' := 38) C dX7_go_36 rfl rfl ?_
          refine x_if_ge (tgt := 62) (pc' := 41) C dX7_go_38 (by decide) rfl (fun c7 => ?_) (fun c7 => absurd c7 (by decide))
          refine x_iinc (pc' := 65) (v := (nI (i2_14 + 1))) (L' := [some (.ref h), some (.int a1), some (.int (nI (i2_14 + 1))), some (.int x3_14), some (.int 0)]) C dX7_go_62 rfl rfl (nI_add i2_14 1) (Nat.le_of_ble_eq_true rfl) rfl ?_
          refine x_aload_n (pc' := 66) C dX7_go_65 rfl rfl rfl ?_
          refine x_get (pc' := 69) (v := .int (z5.1 14)) C 0 14 inBX7 rfl rfl (by decide) fl_X7_128 rfl rfl dX7_go_66 rfl ?_
          refine x_if_ne (tgt := 87) (pc' := 72) C dX7_go_69 (by decide) rfl (fun c8 => ?_) (fun c8 => ?_)
          · rw [if_neg c8] at hRES
            replace hok := hok.2 c8
            refine x_iconst (v := 0) (pc' := 88) C dX7_go_87 rfl (by decide) ?_
            refine x_istore_n (pc' := 89) (L' := [some (.ref h), some (.int a1), some (.int (nI (i2_14 + 1))), some (.int 0), some (.int 0)]) C dX7_go_88 rfl rfl (Nat.le_of_ble_eq_true rfl) rfl ?_
            refine x_iload_n (pc' := 90) C dX7_go_89 rfl rfl rfl ?_
            refine x_if_eq (tgt := 112) (pc' := 93) C dX7_go_90 (by decide) rfl (fun c9 => ?_) (fun c9 => absurd c9 (by decide))
            refine x_goto (tgt := 14) C dX7_go_112 (by decide) ?_
            refine x_forget (L' := [some (.ref h), some (.int a1), some (.int (nI (i2_14 + 1))), some (.int 0), none]) [0, 1, 2, 3] rfl rfl ?_
            exact ih14 z5 (i2_14 + 1) 0 hRES hok
          · rw [if_pos c8] at hRES
            replace hok := hok.1 c8
            refine x_aload_n (pc' := 73) C dX7_go_72 rfl rfl rfl ?_
            refine x_get (pc' := 76) (v := .int (z5.1 13)) C 0 13 inBX7 rfl rfl (by decide) fl_X7_132 rfl rfl dX7_go_73 rfl ?_
            refine x_aload_n (pc' := 77) C dX7_go_76 rfl rfl rfl ?_
            refine x_get (pc' := 80) (v := .int (z5.1 7)) C 0 7 inBX7 rfl rfl (by decide) fl_X7_125 rfl rfl dX7_go_77 rfl ?_
            refine x_icmp_ge (tgt := 87) (pc' := 83) C dX7_go_80 (by decide) rfl (fun c10 => ?_) (fun c10 => ?_)
            · rw [if_neg c10] at hRES
              replace hok := hok.2 c10
              refine x_iconst (v := 0) (pc' := 88) C dX7_go_87 rfl (by decide) ?_
              refine x_istore_n (pc' := 89) (L' := [some (.ref h), some (.int a1), some (.int (nI (i2_14 + 1))), some (.int 0), some (.int 0)]) C dX7_go_88 rfl rfl (Nat.le_of_ble_eq_true rfl) rfl ?_
              refine x_iload_n (pc' := 90) C dX7_go_89 rfl rfl rfl ?_
              refine x_if_eq (tgt := 112) (pc' := 93) C dX7_go_90 (by decide) rfl (fun c11 => ?_) (fun c11 => absurd c11 (by decide))
              refine x_goto (tgt := 14) C dX7_go_112 (by decide) ?_
              refine x_forget (L' := [some (.ref h), some (.int a1), some (.int (nI (i2_14 + 1))), some (.int 0), none]) [0, 1, 2, 3] rfl rfl ?_
              exact ih14 z5 (i2_14 + 1) 0 hRES hok
            · rw [if_pos c10] at hRES
              replace hok := hok.1 c10
              refine x_iconst (v := 1) (pc' := 84) C dX7_go_83 rfl (by decide) ?_
              refine x_goto (tgt := 88) C dX7_go_84 (by decide) ?_
              refine x_istore_n (pc' := 89) (L' := [some (.ref h), some (.int a1), some (.int (nI (i2_14 + 1))), some (.int 1), some (.int 0)]) C dX7_go_88 rfl rfl (Nat.le_of_ble_eq_true rfl) rfl ?_
              refine x_iload_n (pc' := 90) C dX7_go_89 rfl rfl rfl ?_
              refine x_if_eq (tgt := 112) (pc' := 93) C dX7_go_90 (by decide) rfl (fun c12 => absurd c12 (by decide)) (fun c12 => ?_)
              refine x_aload_n (pc' := 94) C dX7_go_93 rfl rfl rfl ?_
              refine x_bipush (v := 59) (pc' := 96) C dX7_go_94 rfl (by decide) ?_
              obtain ⟨hn13, hok⟩ := hok
              obtain ⟨z14, ez14⟩ : ∃ z, z = (f_X7_sign z5 59) := ⟨_, rfl⟩
              replace hRES := bd hRES z14 ez14
              replace hok := bdP hok z14 ez14
              have hc := c_X7_sign (kl k) (kg k) h ad z5 59 hn13
              rw [← ez14] at hc
              refine x_WV (st := []) (st2 := []) (pc' := 99) C B hc cw_X7_135 ok_X7_sign rfl (by decide) 0 rfl rfl [0, 1, 2, 3, 4, 5, 6] [] [0, 1, 2, 3, 4, 5, 6] (wMo (kg k) h ad z14) rfl rfl rfl rfl (by decide) rfl rfl rfl (Nat.le_of_ble_eq_true rfl) (Nat.zero_le _) (Nat.zero_le _) rfl dX7_go_96 rfl rfl ?_
              refine x_aload_n (pc' := 100) C dX7_go_99 rfl rfl rfl ?_
              refine x_get (pc' := 103) (v := .int (z14.1 14)) C 0 14 inBX7 rfl rfl (by decide) fl_X7_128 rfl rfl dX7_go_100 rfl ?_
              refine x_if_ne (tgt := 110) (pc' := 106) C dX7_go_103 (by decide) rfl (fun c15 => ?_) (fun c15 => ?_)
              · rw [if_neg c15] at hRES
                replace hok := hok.2 c15
                refine x_iconst (v := 0) (pc' := 111) C dX7_go_110 rfl (by decide) ?_
                refine x_istore_n (pc' := 112) (L' := [some (.ref h), some (.int a1), some (.int (nI (i2_14 + 1))), some (.int 0), some (.int 0)]) C dX7_go_111 rfl rfl (Nat.le_of_ble_eq_true rfl) rfl ?_
                refine x_goto (tgt := 14) C dX7_go_112 (by decide) ?_
                refine x_forget (L' := [some (.ref h), some (.int a1), some (.int (nI (i2_14 + 1))), some (.int 0), none]) [0, 1, 2, 3] rfl rfl ?_
                exact ih14 z14 (i2_14 + 1) 0 hRES hok
              · rw [if_pos c15] at hRES
                replace hok := hok.1 c15
                refine x_iconst (v := 1) (pc' := 107) C dX7_go_106 rfl (by decide) ?_
                refine x_goto (tgt := 111) C dX7_go_107 (by decide) ?_
                refine x_istore_n (pc' := 112) (L' := [some (.ref h), some (.int a1), some (.int (nI (i2_14 + 1))), some (.int 1), some (.int 0)]) C dX7_go_111 rfl rfl (Nat.le_of_ble_eq_true rfl) rfl ?_
                refine x_goto (tgt := 14) C dX7_go_112 (by decide) ?_
                refine x_forget (L' := [some (.ref h), some (.int a1), some (.int (nI (i2_14 + 1))), some (.int 1), none]) [0, 1, 2, 3] rfl rfl ?_
                exact ih14 z14 (i2_14 + 1) 1 hRES hok
        · rw [if_neg c6] at hRES
          replace hok := hok.2 c6
          refine x_aload_n (pc' := 27) C dX7_go_26 rfl rfl rfl ?_
          obtain ⟨hn16, hok⟩ := hok
          obtain ⟨z17, ez17⟩ : ∃ z, z = (f_X7_does z5) := ⟨_, rfl⟩
          replace hRES := bd hRES z17 ez17
          replace hok := bdP hok z17 ez17
          have hc := c_X7_does (kl k) (kg k) h ad z5 hn16
          rw [← ez17] at hc
          refine x_WV (st := []) (st2 := [.int z17.1]) (pc' := 30) C B hc cw_X7_166 ok_X7_does rfl (by decide) 0 rfl rfl [0, 1, 2, 3, 4, 5, 6] [] [0, 1, 2, 3, 4, 5, 6] (wMo (kg k) h ad z17.2) rfl rfl rfl rfl (by decide) rfl rfl rfl (Nat.le_of_ble_eq_true rfl) (Nat.zero_le _) (Nat.zero_le _) rfl dX7_go_27 rfl rfl ?_
          refine x_goto (tgt := 34) C dX7_go_30 (by decide) ?_
          refine x_istore (pc' := 36) (L' := [some (.ref h), some (.int a1), some (.int (nI i2_14)), some (.int x3_14), some (.int z17.1)]) C dX7_go_34 rfl (Nat.le_of_ble_eq_true rfl) rfl ?_
          refine x_iload (pc' := 38) C dX7_go_36 rfl rfl ?_
          refine x_if_ge (tgt := 62) (pc' := 41) C dX7_go_38 (by decide) rfl (fun c18 => ?_) (fun c18 => ?_)
          · rw [if_neg c18] at hRES
            replace hok := hok.2 c18
            refine x_iinc (pc' := 65) (v := (nI (i2_14 + 1))) (L' := [some (.ref h), some (.int a1), some (.int (nI (i2_14 + 1))), some (.int x3_14), some (.int z17.1)]) C dX7_go_62 rfl rfl (nI_add i2_14 1) (Nat.le_of_ble_eq_true rfl) rfl ?_
            refine x_aload_n (pc' := 66) C dX7_go_65 rfl rfl rfl ?_
            refine x_get (pc' := 69) (v := .int (z17.2.1 14)) C 0 14 inBX7 rfl rfl (by decide) fl_X7_128 rfl rfl dX7_go_66 rfl ?_
            refine x_if_ne (tgt := 87) (pc' := 72) C dX7_go_69 (by decide) rfl (fun c19 => ?_) (fun c19 => ?_)
            · rw [if_neg c19] at hRES
              replace hok := hok.2 c19
              refine x_iconst (v := 0) (pc' := 88) C dX7_go_87 rfl (by decide) ?_
              refine x_istore_n (pc' := 89) (L' := [some (.ref h), some (.int a1), some (.int (nI (i2_14 + 1))), some (.int 0), some (.int z17.1)]) C dX7_go_88 rfl rfl (Nat.le_of_ble_eq_true rfl) rfl ?_
              refine x_iload_n (pc' := 90) C dX7_go_89 rfl rfl rfl ?_
              refine x_if_eq (tgt := 112) (pc' := 93) C dX7_go_90 (by decide) rfl (fun c20 => ?_) (fun c20 => absurd c20 (by decide))
              refine x_goto (tgt := 14) C dX7_go_112 (by decide) ?_
              refine x_forget (L' := [some (.ref h), some (.int a1), some (.int (nI (i2_14 + 1))), some (.int 0), none]) [0, 1, 2, 3] rfl rfl ?_
              exact ih14 z17.2 (i2_14 + 1) 0 hRES hok
            · rw [if_pos c19] at hRES
              replace hok := hok.1 c19
              refine x_aload_n (pc' := 73) C dX7_go_72 rfl rfl rfl ?_
              refine x_get (pc' := 76) (v := .int (z17.2.1 13)) C 0 13 inBX7 rfl rfl (by decide) fl_X7_132 rfl rfl dX7_go_73 rfl ?_
              refine x_aload_n (pc' := 77) C dX7_go_76 rfl rfl rfl ?_
              refine x_get (pc' := 80) (v := .int (z17.2.1 7)) C 0 7 inBX7 rfl rfl (by decide) fl_X7_125 rfl rfl dX7_go_77 rfl ?_
              refine x_icmp_ge (tgt := 87) (pc' := 83) C dX7_go_80 (by decide) rfl (fun c21 => ?_) (fun c21 => ?_)
              · rw [if_neg c21] at hRES
                replace hok := hok.2 c21
                refine x_iconst (v := 0) (pc' := 88) C dX7_go_87 rfl (by decide) ?_
                refine x_istore_n (pc' := 89) (L' := [some (.ref h), some (.int a1), some (.int (nI (i2_14 + 1))), some (.int 0), some (.int z17.1)]) C dX7_go_88 rfl rfl (Nat.le_of_ble_eq_true rfl) rfl ?_
                refine x_iload_n (pc' := 90) C dX7_go_89 rfl rfl rfl ?_
                refine x_if_eq (tgt := 112) (pc' := 93) C dX7_go_90 (by decide) rfl (fun c22 => ?_) (fun c22 => absurd c22 (by decide))
                refine x_goto (tgt := 14) C dX7_go_112 (by decide) ?_
                refine x_forget (L' := [some (.ref h), some (.int a1), some (.int (nI (i2_14 + 1))), some (.int 0), none]) [0, 1, 2, 3] rfl rfl ?_
                exact ih14 z17.2 (i2_14 + 1) 0 hRES hok
              · rw [if_pos c21] at hRES
                replace hok := hok.1 c21
                refine x_iconst (v := 1) (pc' := 84) C dX7_go_83 rfl (by decide) ?_
                refine x_goto (tgt := 88) C dX7_go_84 (by decide) ?_
                refine x_istore_n (pc' := 89) (L' := [some (.ref h), some (.int a1), some (.int (nI (i2_14 + 1))), some (.int 1), some (.int z17.1)]) C dX7_go_88 rfl rfl (Nat.le_of_ble_eq_true rfl) rfl ?_
                refine x_iload_n (pc' := 90) C dX7_go_89 rfl rfl rfl ?_
                refine x_if_eq (tgt := 112) (pc' := 93) C dX7_go_90 (by decide) rfl (fun c23 => absurd c23 (by decide)) (fun c23 => ?_)
                refine x_aload_n (pc' := 94) C dX7_go_93 rfl rfl rfl ?_
                refine x_bipush (v := 59) (pc' := 96) C dX7_go_94 rfl (by decide) ?_
                obtain ⟨hn24, hok⟩ := hok
                obtain ⟨z25, ez25⟩ : ∃ z, z = (f_X7_sign z17.2 59) := ⟨_, rfl⟩
                replace hRES := bd hRES z25 ez25
                replace hok := bdP hok z25 ez25
                have hc := c_X7_sign (kl k) (kg k) h ad z17.2 59 hn24
                rw [← ez25] at hc
                refine x_WV (st := []) (st2 := []) (pc' := 99) C B hc cw_X7_135 ok_X7_sign rfl (by decide) 0 rfl rfl [0, 1, 2, 3, 4, 5, 6] [] [0, 1, 2, 3, 4, 5, 6] (wMo (kg k) h ad z25) rfl rfl rfl rfl (by decide) rfl rfl rfl (Nat.le_of_ble_eq_true rfl) (Nat.zero_le _) (Nat.zero_le _) rfl dX7_go_96 rfl rfl ?_
                refine x_aload_n (pc' := 100) C dX7_go_99 rfl rfl rfl ?_
                refine x_get (pc' := 103) (v := .int (z25.1 14)) C 0 14 inBX7 rfl rfl (by decide) fl_X7_128 rfl rfl dX7_go_100 rfl ?_
                refine x_if_ne (tgt := 110) (pc' := 106) C dX7_go_103 (by decide) rfl (fun c26 => ?_) (fun c26 => ?_)
                · rw [if_neg c26] at hRES
                  replace hok := hok.2 c26
                  refine x_iconst (v := 0) (pc' := 111) C dX7_go_110 rfl (by decide) ?_
                  refine x_istore_n (pc' := 112) (L' := [some (.ref h), some (.int a1), some (.int (nI (i2_14 + 1))), some (.int 0), some (.int z17.1)]) C dX7_go_111 rfl rfl (Nat.le_of_ble_eq_true rfl) rfl ?_
                  refine x_goto (tgt := 14) C dX7_go_112 (by decide) ?_
                  refine x_forget (L' := [some (.ref h), some (.int a1), some (.int (nI (i2_14 + 1))), some (.int 0), none]) [0, 1, 2, 3] rfl rfl ?_
                  exact ih14 z25 (i2_14 + 1) 0 hRES hok
                · rw [if_pos c26] at hRES
                  replace hok := hok.1 c26
                  refine x_iconst (v := 1) (pc' := 107) C dX7_go_106 rfl (by decide) ?_
                  refine x_goto (tgt := 111) C dX7_go_107 (by decide) ?_
                  refine x_istore_n (pc' := 112) (L' := [some (.ref h), some (.int a1), some (.int (nI (i2_14 + 1))), some (.int 1), some (.int z17.1)]) C dX7_go_111 rfl rfl (Nat.le_of_ble_eq_true rfl) rfl ?_
                  refine x_goto (tgt := 14) C dX7_go_112 (by decide) ?_
                  refine x_forget (L' := [some (.ref h), some (.int a1), some (.int (nI (i2_14 + 1))), some (.int 1), none]) [0, 1, 2, 3] rfl rfl ?_
                  exact ih14 z25 (i2_14 + 1) 1 hRES hok
          · rw [if_pos c18] at hRES
            replace hok := hok.1 c18
            refine x_iload (pc' := 43) C dX7_go_41 rfl rfl ?_
            refine x_bipush (v := (-5)) (pc' := 45) C dX7_go_43 rfl (by decide) ?_
            refine x_icmp_eq (tgt := 62) (pc' := 48) C dX7_go_45 (by decide) rfl (fun c27 => ?_) (fun c27 => ?_)
            · rw [if_pos c27] at hRES
              replace hok := hok.1 c27
              refine x_iinc (pc' := 65) (v := (nI (i2_14 + 1))) (L' := [some (.ref h), some (.int a1), some (.int (nI (i2_14 + 1))), some (.int x3_14), some (.int z17.1)]) C dX7_go_62 rfl rfl (nI_add i2_14 1) (Nat.le_of_ble_eq_true rfl) rfl ?_
              refine x_aload_n (pc' := 66) C dX7_go_65 rfl rfl rfl ?_
              refine x_get (pc' := 69) (v := .int (z17.2.1 14)) C 0 14 inBX7 rfl rfl (by decide) fl_X7_128 rfl rfl dX7_go_66 rfl ?_
              refine x_if_ne (tgt := 87) (pc' := 72) C dX7_go_69 (by decide) rfl (fun c28 => ?_) (fun c28 => ?_)
              · rw [if_neg c28] at hRES
                replace hok := hok.2 c28
                refine x_iconst (v := 0) (pc' := 88) C dX7_go_87 rfl (by decide) ?_
                refine x_istore_n (pc' := 89) (L' := [some (.ref h), some (.int a1), some (.int (nI (i2_14 + 1))), some (.int 0), some (.int z17.1)]) C dX7_go_88 rfl rfl (Nat.le_of_ble_eq_true rfl) rfl ?_
                refine x_iload_n (pc' := 90) C dX7_go_89 rfl rfl rfl ?_
                refine x_if_eq (tgt := 112) (pc' := 93) C dX7_go_90 (by decide) rfl (fun c29 => ?_) (fun c29 => absurd c29 (by decide))
                refine x_goto (tgt := 14) C dX7_go_112 (by decide) ?_
                refine x_forget (L' := [some (.ref h), some (.int a1), some (.int (nI (i2_14 + 1))), some (.int 0), none]) [0, 1, 2, 3] rfl rfl ?_
                exact ih14 z17.2 (i2_14 + 1) 0 hRES hok
              · rw [if_pos c28] at hRES
                replace hok := hok.1 c28
                refine x_aload_n (pc' := 73) C dX7_go_72 rfl rfl rfl ?_
                refine x_get (pc' := 76) (v := .int (z17.2.1 13)) C 0 13 inBX7 rfl rfl (by decide) fl_X7_132 rfl rfl dX7_go_73 rfl ?_
                refine x_aload_n (pc' := 77) C dX7_go_76 rfl rfl rfl ?_
                refine x_get (pc' := 80) (v := .int (z17.2.1 7)) C 0 7 inBX7 rfl rfl (by decide) fl_X7_125 rfl rfl dX7_go_77 rfl ?_
                refine x_icmp_ge (tgt := 87) (pc' := 83) C dX7_go_80 (by decide) rfl (fun c30 => ?_) (fun c30 => ?_)
                · rw [if_neg c30] at hRES
                  replace hok := hok.2 c30
                  refine x_iconst (v := 0) (pc' := 88) C dX7_go_87 rfl (by decide) ?_
                  refine x_istore_n (pc' := 89) (L' := [some (.ref h), some (.int a1), some (.int (nI (i2_14 + 1))), some (.int 0), some (.int z17.1)]) C dX7_go_88 rfl rfl (Nat.le_of_ble_eq_true rfl) rfl ?_
                  refine x_iload_n (pc' := 90) C dX7_go_89 rfl rfl rfl ?_
                  refine x_if_eq (tgt := 112) (pc' := 93) C dX7_go_90 (by decide) rfl (fun c31 => ?_) (fun c31 => absurd c31 (by decide))
                  refine x_goto (tgt := 14) C dX7_go_112 (by decide) ?_
                  refine x_forget (L' := [some (.ref h), some (.int a1), some (.int (nI (i2_14 + 1))), some (.int 0), none]) [0, 1, 2, 3] rfl rfl ?_
                  exact ih14 z17.2 (i2_14 + 1) 0 hRES hok
                · rw [if_pos c30] at hRES
                  replace hok := hok.1 c30
                  refine x_iconst (v := 1) (pc' := 84) C dX7_go_83 rfl (by decide) ?_
                  refine x_goto (tgt := 88) C dX7_go_84 (by decide) ?_
                  refine x_istore_n (pc' := 89) (L' := [some (.ref h), some (.int a1), some (.int (nI (i2_14 + 1))), some (.int 1), some (.int z17.1)]) C dX7_go_88 rfl rfl (Nat.le_of_ble_eq_true rfl) rfl ?_
                  refine x_iload_n (pc' := 90) C dX7_go_89 rfl rfl rfl ?_
                  refine x_if_eq (tgt := 112) (pc' := 93) C dX7_go_90 (by decide) rfl (fun c32 => absurd c32 (by decide)) (fun c32 => ?_)
                  refine x_aload_n (pc' := 94) C dX7_go_93 rfl rfl rfl ?_
                  refine x_bipush (v := 59) (pc' := 96) C dX7_go_94 rfl (by decide) ?_
                  obtain ⟨hn33, hok⟩ := hok
                  obtain ⟨z34, ez34⟩ : ∃ z, z = (f_X7_sign z17.2 59) := ⟨_, rfl⟩
                  replace hRES := bd hRES z34 ez34
                  replace hok := bdP hok z34 ez34
                  have hc := c_X7_sign (kl k) (kg k) h ad z17.2 59 hn33
                  rw [← ez34] at hc
                  refine x_WV (st := []) (st2 := []) (pc' := 99) C B hc cw_X7_135 ok_X7_sign rfl (by decide) 0 rfl rfl [0, 1, 2, 3, 4, 5, 6] [] [0, 1, 2, 3, 4, 5, 6] (wMo (kg k) h ad z34) rfl rfl rfl rfl (by decide) rfl rfl rfl (Nat.le_of_ble_eq_true rfl) (Nat.zero_le _) (Nat.zero_le _) rfl dX7_go_96 rfl rfl ?_
                  refine x_aload_n (pc' := 100) C dX7_go_99 rfl rfl rfl ?_
                  refine x_get (pc' := 103) (v := .int (z34.1 14)) C 0 14 inBX7 rfl rfl (by decide) fl_X7_128 rfl rfl dX7_go_100 rfl ?_
                  refine x_if_ne (tgt := 110) (pc' := 106) C dX7_go_103 (by decide) rfl (fun c35 => ?_) (fun c35 => ?_)
                  · rw [if_neg c35] at hRES
                    replace hok := hok.2 c35
                    refine x_iconst (v := 0) (pc' := 111) C dX7_go_110 rfl (by decide) ?_
                    refine x_istore_n (pc' := 112) (L' := [some (.ref h), some (.int a1), some (.int (nI (i2_14 + 1))), some (.int 0), some (.int z17.1)]) C dX7_go_111 rfl rfl (Nat.le_of_ble_eq_true rfl) rfl ?_
                    refine x_goto (tgt := 14) C dX7_go_112 (by decide) ?_
                    refine x_forget (L' := [some (.ref h), some (.int a1), some (.int (nI (i2_14 + 1))), some (.int 0), none]) [0, 1, 2, 3] rfl rfl ?_
                    exact ih14 z34 (i2_14 + 1) 0 hRES hok
                  · rw [if_pos c35] at hRES
                    replace hok := hok.1 c35
                    refine x_iconst (v := 1) (pc' := 107) C dX7_go_106 rfl (by decide) ?_
                    refine x_goto (tgt := 111) C dX7_go_107 (by decide) ?_
                    refine x_istore_n (pc' := 112) (L' := [some (.ref h), some (.int a1), some (.int (nI (i2_14 + 1))), some (.int 1), some (.int z17.1)]) C dX7_go_111 rfl rfl (Nat.le_of_ble_eq_true rfl) rfl ?_
                    refine x_goto (tgt := 14) C dX7_go_112 (by decide) ?_
                    refine x_forget (L' := [some (.ref h), some (.int a1), some (.int (nI (i2_14 + 1))), some (.int 1), none]) [0, 1, 2, 3] rfl rfl ?_
                    exact ih14 z34 (i2_14 + 1) 1 hRES hok
            · rw [if_neg c27] at hRES
              replace hok := hok.2 c27
              refine x_aload_n (pc' := 49) C dX7_go_48 rfl rfl rfl ?_
              refine x_iload_n (pc' := 50) C dX7_go_49 rfl rfl rfl ?_
              obtain ⟨z36, ez36⟩ : ∃ z, z = (setI z17.2 8 (nI i2_14)) := ⟨_, rfl⟩
              replace hRES := bd hRES z36 ez36
              replace hok := bdP hok z36 ez36
              refine x_put (pc' := 53) (w' := wMo (kg k) h ad z36) (ty := .int) C B 0 8 inBX7 tyX7 tyX7_ok nmX7 rfl rfl (by decide) fl_X7_25 rfl rfl rfl rfl rfl (Nat.le_of_ble_eq_true rfl) dX7_go_50 rfl (by rw [ez36]; rfl) ?_
              refine x_aload_n (pc' := 54) C dX7_go_53 rfl rfl rfl ?_
              refine x_iload (pc' := 56) C dX7_go_54 rfl rfl ?_
              obtain ⟨z37, ez37⟩ : ∃ z, z = (setI z36 9 z17.1) := ⟨_, rfl⟩
              replace hRES := bd hRES z37 ez37
              replace hok := bdP hok z37 ez37
              refine x_put (pc' := 59) (w' := wMo (kg k) h ad z37) (ty := .int) C B 0 9 inBX7 tyX7 tyX7_ok nmX7 rfl rfl (by decide) fl_X7_169 rfl rfl rfl rfl rfl (Nat.le_of_ble_eq_true rfl) dX7_go_56 rfl (by rw [ez37]; rfl) ?_
              refine x_bipush (v := (-4)) (pc' := 61) C dX7_go_59 rfl (by decide) ?_
              exact x_iret C (Nat.zero_le _) (Nat.zero_le _) dX7_go_61 ⟨by rw [hRES], by rw [hRES]⟩
  exact loop14 82 z2 0 1 hRES hok
