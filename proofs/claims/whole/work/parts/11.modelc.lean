def f_X7_make (S : CS) (a1 : Int32) (a2 : Int32) (a3 : Int32) : Int32 × CS := (bind1 (f_X7_putAside S) (fun z1 => (bind1 (f_X7_makes z1 a1 a2 a3) (fun z3 => (bind1 (f_X7_act z3.2 z3.1) (fun z5 => (z5.1, z5.2)))))))
def o_X7_make (S : CS) (a1 : Int32) (a2 : Int32) (a3 : Int32) : Prop := (bind1 (f_X7_putAside S) (fun z1 => ((o_X7_makes z1 a1 a2 a3) ∧ (bind1 (f_X7_makes z1 a1 a2 a3) (fun z3 => ((o_X7_act z3.2 z3.1) ∧ (bind1 (f_X7_act z3.2 z3.1) (fun z5 => True))))))))
set_option maxRecDepth 100000 in
set_option maxHeartbeats 8000000 in
theorem c_X7_make (l : Launch) (g : GT) (h : Nat) (ad : Nat → Nat) (S : CS) (a1 : Int32) (a2 : Int32) (a3 : Int32) (hok : o_X7_make S a1 a2 a3) : CW l yX7_make (.code yX7_make cX7_make 4 (some .int)) 4 g [.ref h, .int a1, .int a2, .int a3] (wMo g h ad S) (some (.int (f_X7_make S a1 a2 a3).1)) (wMo g h ad (f_X7_make S a1 a2 a3).2) := by
  obtain ⟨RES, hRES⟩ : ∃ z, z = (f_X7_make S a1 a2 a3) := ⟨_, rfl⟩
  rw [← hRES]
  unfold f_X7_make at hRES
  unfold o_X7_make at hok
  refine CWx.of (nL := 4) (ret := (some .int)) (own := RX7) (cc := cX7_make) rfl (by decide) rfl (List.forall_mem_cons.mpr ⟨rfl, (List.forall_mem_cons.mpr ⟨rfl, (List.forall_mem_cons.mpr ⟨rfl, (List.forall_mem_cons.mpr ⟨rfl, (fun _ h => absurd h List.not_mem_nil)⟩)⟩)⟩)⟩) (Nat.le_of_ble_eq_true rfl) ?_
  intro k C B hin hkl hkg
  subst hkl; subst hkg
  refine x_loc2 (L' := [some (.ref h), some (.int a1), some (.int a2), some (.int a3)]) rfl ?_
  refine x_aload_n (pc' := 1) C dX7_make_0 rfl rfl rfl ?_
  obtain ⟨z1, ez1⟩ : ∃ z, z = (f_X7_putAside S) := ⟨_, rfl⟩
  replace hRES := bd hRES z1 ez1
  replace hok := bdP hok z1 ez1
  have hc := c_X7_putAside (kl k) (kg k) h ad S
  rw [← ez1] at hc
  refine x_WV (st := []) (st2 := []) (pc' := 4) C B hc cw_X7_94 ok_X7_putAside rfl (by decide) 0 rfl rfl [0, 1, 2, 3, 4, 5, 6] [] [0, 1, 2, 3, 4, 5, 6] (wMo (kg k) h ad z1) rfl rfl rfl rfl (by decide) rfl rfl rfl (Nat.le_of_ble_eq_true rfl) (Nat.zero_le _) (Nat.zero_le _) rfl dX7_make_1 rfl rfl ?_
  refine x_aload_n (pc' := 5) C dX7_make_4 rfl rfl rfl ?_
  refine x_aload_n (pc' := 6) C dX7_make_5 rfl rfl rfl ?_
  refine x_iload_n (pc' := 7) C dX7_make_6 rfl rfl rfl ?_
  refine x_iload_n (pc' := 8) C dX7_make_7 rfl rfl rfl ?_
  refine x_iload_n (pc' := 9) C dX7_make_8 rfl rfl rfl ?_
  obtain ⟨hn2, hok⟩ := hok
  obtain ⟨z3, ez3⟩ : ∃ z, z = (f_X7_makes z1 a1 a2 a3) := ⟨_, rfl⟩
  replace hRES := bd hRES z3 ez3
  replace hok := bdP hok z3 ez3
  have hc := c_X7_makes (kl k) (kg k) h ad z1 a1 a2 a3 hn2
  rw [← ez3] at hc
  refine x_WV (st := [.ref h]) (st2 := [.int z3.1, .ref h]) (pc' := 12) C B hc cw_X7_97 ok_X7_makes rfl (by decide) 0 rfl rfl [0, 1, 2, 3, 4, 5, 6] [] [0, 1, 2, 3, 4, 5, 6] (wMo (kg k) h ad z3.2) rfl rfl rfl rfl (by decide) rfl rfl rfl (Nat.le_of_ble_eq_true rfl) (Nat.zero_le _) (Nat.zero_le _) rfl dX7_make_9 rfl rfl ?_
  obtain ⟨hn4, hok⟩ := hok
  obtain ⟨z5, ez5⟩ : ∃ z, z = (f_X7_act z3.2 z3.1) := ⟨_, rfl⟩
  replace hRES := bd hRES z5 ez5
  replace hok := bdP hok z5 ez5
  have hc := c_X7_act (kl k) (kg k) h ad z3.2 z3.1 hn4
  rw [← ez5] at hc
  refine x_WV (st := []) (st2 := [.int z5.1]) (pc' := 15) C B hc cw_X7_101 ok_X7_act rfl (by decide) 0 rfl rfl [0, 1, 2, 3, 4, 5, 6] [] [0, 1, 2, 3, 4, 5, 6] (wMo (kg k) h ad z5.2) rfl rfl rfl rfl (by decide) rfl rfl rfl (Nat.le_of_ble_eq_true rfl) (Nat.zero_le _) (Nat.zero_le _) rfl dX7_make_12 rfl rfl ?_
  exact x_iret C (Nat.zero_le _) (Nat.zero_le _) dX7_make_15 ⟨by rw [hRES], by rw [hRES]⟩

def f_X7_mix (S : CS) (a1 : Int32) (a2 : Int32) (a3 : Int32) : Int32 × CS := (bind1 (f_X7_putAside S) (fun z1 => (bind1 (f_X7_mixes z1 a1 a2 a3) (fun z3 => (bind1 (f_X7_act z3.2 z3.1) (fun z5 => (z5.1, z5.2)))))))
def o_X7_mix (S : CS) (a1 : Int32) (a2 : Int32) (a3 : Int32) : Prop := (bind1 (f_X7_putAside S) (fun z1 => ((o_X7_mixes z1 a1 a2 a3) ∧ (bind1 (f_X7_mixes z1 a1 a2 a3) (fun z3 => ((o_X7_act z3.2 z3.1) ∧ (bind1 (f_X7_act z3.2 z3.1) (fun z5 => True))))))))
set_option maxRecDepth 100000 in
set_option maxHeartbeats 8000000 in
theorem c_X7_mix (l : Launch) (g : GT) (h : Nat) (ad : Nat → Nat) (S : CS) (a1 : Int32) (a2 : Int32) (a3 : Int32) (hok : o_X7_mix S a1 a2 a3) : CW l yX7_mix (.code yX7_mix cX7_mix 4 (some .int)) 4 g [.ref h, .int a1, .int a2, .int a3] (wMo g h ad S) (some (.int (f_X7_mix S a1 a2 a3).1)) (wMo g h ad (f_X7_mix S a1 a2 a3).2) := by
  obtain ⟨RES, hRES⟩ : ∃ z, z = (f_X7_mix S a1 a2 a3) := ⟨_, rfl⟩
  rw [← hRES]
  unfold f_X7_mix at hRES
  unfold o_X7_mix at hok
  refine CWx.of (nL := 4) (ret := (some .int)) (own := RX7) (cc := cX7_mix) rfl (by decide) rfl (List.forall_mem_cons.mpr ⟨rfl, (List.forall_mem_cons.mpr ⟨rfl, (List.forall_mem_cons.mpr ⟨rfl, (List.forall_mem_cons.mpr ⟨rfl, (fun _ h => absurd h List.not_mem_nil)⟩)⟩)⟩)⟩) (Nat.le_of_ble_eq_true rfl) ?_
  intro k C B hin hkl hkg
  subst hkl; subst hkg
  refine x_loc2 (L' := [some (.ref h), some (.int a1), some (.int a2), some (.int a3)]) rfl ?_
  refine x_aload_n (pc' := 1) C dX7_mix_0 rfl rfl rfl ?_
  obtain ⟨z1, ez1⟩ : ∃ z, z = (f_X7_putAside S) := ⟨_, rfl⟩
  replace hRES := bd hRES z1 ez1
  replace hok := bdP hok z1 ez1
  have hc := c_X7_putAside (kl k) (kg k) h ad S
  rw [← ez1] at hc
  refine x_WV (st := []) (st2 := []) (pc' := 4) C B hc cw_X7_94 ok_X7_putAside rfl (by decide) 0 rfl rfl [0, 1, 2, 3, 4, 5, 6] [] [0, 1, 2, 3, 4, 5, 6] (wMo (kg k) h ad z1) rfl rfl rfl rfl (by decide) rfl rfl rfl (Nat.le_of_ble_eq_true rfl) (Nat.zero_le _) (Nat.zero_le _) rfl dX7_mix_1 rfl rfl ?_
  refine x_aload_n (pc' := 5) C dX7_mix_4 rfl rfl rfl ?_
  refine x_aload_n (pc' := 6) C dX7_mix_5 rfl rfl rfl ?_
  refine x_iload_n (pc' := 7) C dX7_mix_6 rfl rfl rfl ?_
  refine x_iload_n (pc' := 8) C dX7_mix_7 rfl rfl rfl ?_
  refine x_iload_n (pc' := 9) C dX7_mix_8 rfl rfl rfl ?_
  obtain ⟨hn2, hok⟩ := hok
  obtain ⟨z3, ez3⟩ : ∃ z, z = (f_X7_mixes z1 a1 a2 a3) := ⟨_, rfl⟩
  replace hRES := bd hRES z3 ez3
  replace hok := bdP hok z3 ez3
  have hc := c_X7_mixes (kl k) (kg k) h ad z1 a1 a2 a3 hn2
  rw [← ez3] at hc
  refine x_WV (st := [.ref h]) (st2 := [.int z3.1, .ref h]) (pc' := 12) C B hc cw_X7_104 ok_X7_mixes rfl (by decide) 0 rfl rfl [0, 1, 2, 3, 4, 5, 6] [] [0, 1, 2, 3, 4, 5, 6] (wMo (kg k) h ad z3.2) rfl rfl rfl rfl (by decide) rfl rfl rfl (Nat.le_of_ble_eq_true rfl) (Nat.zero_le _) (Nat.zero_le _) rfl dX7_mix_9 rfl rfl ?_
  obtain ⟨hn4, hok⟩ := hok
  obtain ⟨z5, ez5⟩ : ∃ z, z = (f_X7_act z3.2 z3.1) := ⟨_, rfl⟩
  replace hRES := bd hRES z5 ez5
  replace hok := bdP hok z5 ez5
  have hc := c_X7_act (kl k) (kg k) h ad z3.2 z3.1 hn4
  rw [← ez5] at hc
  refine x_WV (st := []) (st2 := [.int z5.1]) (pc' := 15) C B hc cw_X7_101 ok_X7_act rfl (by decide) 0 rfl rfl [0, 1, 2, 3, 4, 5, 6] [] [0, 1, 2, 3, 4, 5, 6] (wMo (kg k) h ad z5.2) rfl rfl rfl rfl (by decide) rfl rfl rfl (Nat.le_of_ble_eq_true rfl) (Nat.zero_le _) (Nat.zero_le _) rfl dX7_mix_12 rfl rfl ?_
  exact x_iret C (Nat.zero_le _) (Nat.zero_le _) dX7_mix_15 ⟨by rw [hRES], by rw [hRES]⟩

def f_X7_remove (S : CS) (a1 : Int32) : Int32 × CS := (bind1 (f_X7_putAside S) (fun z1 => (bind1 (f_X7_removes z1 a1) (fun z3 => (bind1 (f_X7_act z3.2 z3.1) (fun z5 => (z5.1, z5.2)))))))
def o_X7_remove (S : CS) (a1 : Int32) : Prop := (bind1 (f_X7_putAside S) (fun z1 => ((o_X7_removes z1 a1) ∧ (bind1 (f_X7_removes z1 a1) (fun z3 => ((o_X7_act z3.2 z3.1) ∧ (bind1 (f_X7_act z3.2 z3.1) (fun z5 => True))))))))
set_option maxRecDepth 100000 in
set_option maxHeartbeats 8000000 in
theorem c_X7_remove (l : Launch) (g : GT) (h : Nat) (ad : Nat → Nat) (S : CS) (a1 : Int32) (hok : o_X7_remove S a1) : CW l yX7_remove (.code yX7_remove cX7_remove 2 (some .int)) 3 g [.ref h, .int a1] (wMo g h ad S) (some (.int (f_X7_remove S a1).1)) (wMo g h ad (f_X7_remove S a1).2) := by
  obtain ⟨RES, hRES⟩ : ∃ z, z = (f_X7_remove S a1) := ⟨_, rfl⟩
  rw [← hRES]
  unfold f_X7_remove at hRES
  unfold o_X7_remove at hok
  refine CWx.of (nL := 2) (ret := (some .int)) (own := RX7) (cc := cX7_remove) rfl (by decide) rfl (List.forall_mem_cons.mpr ⟨rfl, (List.forall_mem_cons.mpr ⟨rfl, (fun _ h => absurd h List.not_mem_nil)⟩)⟩) (Nat.le_of_ble_eq_true rfl) ?_
  intro k C B hin hkl hkg
  subst hkl; subst hkg
  refine x_loc2 (L' := [some (.ref h), some (.int a1)]) rfl ?_
  refine x_aload_n (pc' := 1) C dX7_remove_0 rfl rfl rfl ?_
  obtain ⟨z1, ez1⟩ : ∃ z, z = (f_X7_putAside S) := ⟨_, rfl⟩
  replace hRES := bd hRES z1 ez1
  replace hok := bdP hok z1 ez1
  have hc := c_X7_putAside (kl k) (kg k) h ad S
  rw [← ez1] at hc
  refine x_WV (st := []) (st2 := []) (pc' := 4) C B hc cw_X7_94 ok_X7_putAside rfl (by decide) 0 rfl rfl [0, 1, 2, 3, 4, 5, 6] [] [0, 1, 2, 3, 4, 5, 6] (wMo (kg k) h ad z1) rfl rfl rfl rfl (by decide) rfl rfl rfl (Nat.le_of_ble_eq_true rfl) (Nat.zero_le _) (Nat.zero_le _) rfl dX7_remove_1 rfl rfl ?_
  refine x_aload_n (pc' := 5) C dX7_remove_4 rfl rfl rfl ?_
  refine x_aload_n (pc' := 6) C dX7_remove_5 rfl rfl rfl ?_
  refine x_iload_n (pc' := 7) C dX7_remove_6 rfl rfl rfl ?_
  obtain ⟨hn2, hok⟩ := hok
  obtain ⟨z3, ez3⟩ : ∃ z, z = (f_X7_removes z1 a1) := ⟨_, rfl⟩
  replace hRES := bd hRES z3 ez3
  replace hok := bdP hok z3 ez3
  have hc := c_X7_removes (kl k) (kg k) h ad z1 a1 hn2
  rw [← ez3] at hc
  refine x_WV (st := [.ref h]) (st2 := [.int z3.1, .ref h]) (pc' := 10) C B hc cw_X7_107 ok_X7_removes rfl (by decide) 0 rfl rfl [0, 1, 2, 3, 4, 5, 6] [] [0, 1, 2, 3, 4, 5, 6] (wMo (kg k) h ad z3.2) rfl rfl rfl rfl (by decide) rfl rfl rfl (Nat.le_of_ble_eq_true rfl) (Nat.zero_le _) (Nat.zero_le _) rfl dX7_remove_7 rfl rfl ?_
  obtain ⟨hn4, hok⟩ := hok
  obtain ⟨z5, ez5⟩ : ∃ z, z = (f_X7_act z3.2 z3.1) := ⟨_, rfl⟩
  replace hRES := bd hRES z5 ez5
  replace hok := bdP hok z5 ez5
  have hc := c_X7_act (kl k) (kg k) h ad z3.2 z3.1 hn4
  rw [← ez5] at hc
  refine x_WV (st := []) (st2 := [.int z5.1]) (pc' := 13) C B hc cw_X7_101 ok_X7_act rfl (by decide) 0 rfl rfl [0, 1, 2, 3, 4, 5, 6] [] [0, 1, 2, 3, 4, 5, 6] (wMo (kg k) h ad z5.2) rfl rfl rfl rfl (by decide) rfl rfl rfl (Nat.le_of_ble_eq_true rfl) (Nat.zero_le _) (Nat.zero_le _) rfl dX7_remove_10 rfl rfl ?_
  exact x_iret C (Nat.zero_le _) (Nat.zero_le _) dX7_remove_13 ⟨by rw [hRES], by rw [hRES]⟩

def f_X7_ask (S : CS) (a1 : Int32) : Int32 × CS := (bind1 (f_X7_putAside S) (fun z1 => (bind1 (f_X7_asks z1 a1) (fun z3 => (bind1 (f_X7_act z3.2 z3.1) (fun z5 => (z5.1, z5.2)))))))
def o_X7_ask (S : CS) (a1 : Int32) : Prop := (bind1 (f_X7_putAside S) (fun z1 => ((o_X7_asks z1 a1) ∧ (bind1 (f_X7_asks z1 a1) (fun z3 => ((o_X7_act z3.2 z3.1) ∧ (bind1 (f_X7_act z3.2 z3.1) (fun z5 => True))))))))
set_option maxRecDepth 100000 in
set_option maxHeartbeats 8000000 in
theorem c_X7_ask (l : Launch) (g : GT) (h : Nat) (ad : Nat → Nat) (S : CS) (a1 : Int32) (hok : o_X7_ask S a1) : CW l yX7_ask (.code yX7_ask cX7_ask 2 (some .int)) 6 g [.ref h, .int a1] (wMo g h ad S) (some (.int (f_X7_ask S a1).1)) (wMo g h ad (f_X7_ask S a1).2) := by
  obtain ⟨RES, hRES⟩ : ∃ z, z = (f_X7_ask S a1) := ⟨_, rfl⟩
  rw [← hRES]
  unfold f_X7_ask at hRES
  unfold o_X7_ask at hok
  refine CWx.of (nL := 2) (ret := (some .int)) (own := RX7) (cc := cX7_ask) rfl (by decide) rfl (List.forall_mem_cons.mpr ⟨rfl, (List.forall_mem_cons.mpr ⟨rfl, (fun _ h => absurd h List.not_mem_nil)⟩)⟩) (Nat.le_of_ble_eq_true rfl) ?_
  intro k C B hin hkl hkg
  subst hkl; subst hkg
  refine x_loc2 (L' := [some (.ref h), some (.int a1)]) rfl ?_
  refine x_aload_n (pc' := 1) C dX7_ask_0 rfl rfl rfl ?_
  obtain ⟨z1, ez1⟩ : ∃ z, z = (f_X7_putAside S) := ⟨_, rfl⟩
  replace hRES := bd hRES z1 ez1
  replace hok := bdP hok z1 ez1
  have hc := c_X7_putAside (kl k) (kg k) h ad S
  rw [← ez1] at hc
  refine x_WV (st := []) (st2 := []) (pc' := 4) C B hc cw_X7_94 ok_X7_putAside rfl (by decide) 0 rfl rfl [0, 1, 2, 3, 4, 5, 6] [] [0, 1, 2, 3, 4, 5, 6] (wMo (kg k) h ad z1) rfl rfl rfl rfl (by decide) rfl rfl rfl (Nat.le_of_ble_eq_true rfl) (Nat.zero_le _) (Nat.zero_le _) rfl dX7_ask_1 rfl rfl ?_
  refine x_aload_n (pc' := 5) C dX7_ask_4 rfl rfl rfl ?_
  refine x_aload_n (pc' := 6) C dX7_ask_5 rfl rfl rfl ?_
  refine x_iload_n (pc' := 7) C dX7_ask_6 rfl rfl rfl ?_
  obtain ⟨hn2, hok⟩ := hok
  obtain ⟨z3, ez3⟩ : ∃ z, z = (f_X7_asks z1 a1) := ⟨_, rfl⟩
  replace hRES := bd hRES z3 ez3
  replace hok := bdP hok z3 ez3
  have hc := c_X7_asks (kl k) (kg k) h ad z1 a1 hn2
  rw [← ez3] at hc
  refine x_WV (st := [.ref h]) (st2 := [.int z3.1, .ref h]) (pc' := 10) C B hc cw_X7_110 ok_X7_asks rfl (by decide) 0 rfl rfl [0, 1, 2, 3, 4, 5, 6] [] [0, 1, 2, 3, 4, 5, 6] (wMo (kg k) h ad z3.2) rfl rfl rfl rfl (by decide) rfl rfl rfl (Nat.le_of_ble_eq_true rfl) (Nat.zero_le _) (Nat.zero_le _) rfl dX7_ask_7 rfl rfl ?_
  obtain ⟨hn4, hok⟩ := hok
  obtain ⟨z5, ez5⟩ : ∃ z, z = (f_X7_act z3.2 z3.1) := ⟨_, rfl⟩
  replace hRES := bd hRES z5 ez5
  replace hok := bdP hok z5 ez5
  have hc := c_X7_act (kl k) (kg k) h ad z3.2 z3.1 hn4
  rw [← ez5] at hc
  refine x_WV (st := []) (st2 := [.int z5.1]) (pc' := 13) C B hc cw_X7_101 ok_X7_act rfl (by decide) 0 rfl rfl [0, 1, 2, 3, 4, 5, 6] [] [0, 1, 2, 3, 4, 5, 6] (wMo (kg k) h ad z5.2) rfl rfl rfl rfl (by decide) rfl rfl rfl (Nat.le_of_ble_eq_true rfl) (Nat.zero_le _) (Nat.zero_le _) rfl dX7_ask_10 rfl rfl ?_
  exact x_iret C (Nat.zero_le _) (Nat.zero_le _) dX7_ask_13 ⟨by rw [hRES], by rw [hRES]⟩

def f_X7_root (S : CS) (a1 : Int32) : Int32 × CS := (bind1 (f_X7_putAside S) (fun z1 => (bind1 (f_X7_roots z1 a1) (fun z3 => (bind1 (f_X7_act z3.2 z3.1) (fun z5 => (z5.1, z5.2)))))))
def o_X7_root (S : CS) (a1 : Int32) : Prop := (bind1 (f_X7_putAside S) (fun z1 => ((o_X7_roots z1 a1) ∧ (bind1 (f_X7_roots z1 a1) (fun z3 => ((o_X7_act z3.2 z3.1) ∧ (bind1 (f_X7_act z3.2 z3.1) (fun z5 => True))))))))
set_option maxRecDepth 100000 in
set_option maxHeartbeats 8000000 in
theorem c_X7_root (l : Launch) (g : GT) (h : Nat) (ad : Nat → Nat) (S : CS) (a1 : Int32) (hok : o_X7_root S a1) : CW l yX7_root (.code yX7_root cX7_root 2 (some .int)) 6 g [.ref h, .int a1] (wMo g h ad S) (some (.int (f_X7_root S a1).1)) (wMo g h ad (f_X7_root S a1).2) := by
  obtain ⟨RES, hRES⟩ : ∃ z, z = (f_X7_root S a1) := ⟨_, rfl⟩
  rw [← hRES]
  unfold f_X7_root at hRES
  unfold o_X7_root at hok
  refine CWx.of (nL := 2) (ret := (some .int)) (own := RX7) (cc := cX7_root) rfl (by decide) rfl (List.forall_mem_cons.mpr ⟨rfl, (List.forall_mem_cons.mpr ⟨rfl, (fun _ h => absurd h List.not_mem_nil)⟩)⟩) (Nat.le_of_ble_eq_true rfl) ?_
  intro k C B hin hkl hkg
  subst hkl; subst hkg
  refine x_loc2 (L' := [some (.ref h), some (.int a1)]) rfl ?_
  refine x_aload_n (pc' := 1) C dX7_root_0 rfl rfl rfl ?_
  obtain ⟨z1, ez1⟩ : ∃ z, z = (f_X7_putAside S) := ⟨_, rfl⟩
  replace hRES := bd hRES z1 ez1
  replace hok := bdP hok z1 ez1
  have hc := c_X7_putAside (kl k) (kg k) h ad S
  rw [← ez1] at hc
  refine x_WV (st := []) (st2 := []) (pc' := 4) C B hc cw_X7_94 ok_X7_putAside rfl (by decide) 0 rfl rfl [0, 1, 2, 3, 4, 5, 6] [] [0, 1, 2, 3, 4, 5, 6] (wMo (kg k) h ad z1) rfl rfl rfl rfl (by decide) rfl rfl rfl (Nat.le_of_ble_eq_true rfl) (Nat.zero_le _) (Nat.zero_le _) rfl dX7_root_1 rfl rfl ?_
  refine x_aload_n (pc' := 5) C dX7_root_4 rfl rfl rfl ?_
  refine x_aload_n (pc' := 6) C dX7_root_5 rfl rfl rfl ?_
  refine x_iload_n (pc' := 7) C dX7_root_6 rfl rfl rfl ?_
  obtain ⟨hn2, hok⟩ := hok
  obtain ⟨z3, ez3⟩ : ∃ z, z = (f_X7_roots z1 a1) := ⟨_, rfl⟩
  replace hRES := bd hRES z3 ez3
  replace hok := bdP hok z3 ez3
  have hc := c_X7_roots (kl k) (kg k) h ad z1 a1 hn2
  rw [← ez3] at hc
  refine x_WV (st := [.ref h]) (st2 := [.int z3.1, .ref h]) (pc' := 10) C B hc cw_X7_113 ok_X7_roots rfl (by decide) 0 rfl rfl [0, 1, 2, 3, 4, 5, 6] [] [0, 1, 2, 3, 4, 5, 6] (wMo (kg k) h ad z3.2) rfl rfl rfl rfl (by decide) rfl rfl rfl (Nat.le_of_ble_eq_true rfl) (Nat.zero_le _) (Nat.zero_le _) rfl dX7_root_7 rfl rfl ?_
  obtain ⟨hn4, hok⟩ := hok
  obtain ⟨z5, ez5⟩ : ∃ z, z = (f_X7_act z3.2 z3.1) := ⟨_, rfl⟩
  replace hRES := bd hRES z5 ez5
  replace hok := bdP hok z5 ez5
  have hc := c_X7_act (kl k) (kg k) h ad z3.2 z3.1 hn4
  rw [← ez5] at hc
  refine x_WV (st := []) (st2 := [.int z5.1]) (pc' := 13) C B hc cw_X7_101 ok_X7_act rfl (by decide) 0 rfl rfl [0, 1, 2, 3, 4, 5, 6] [] [0, 1, 2, 3, 4, 5, 6] (wMo (kg k) h ad z5.2) rfl rfl rfl rfl (by decide) rfl rfl rfl (Nat.le_of_ble_eq_true rfl) (Nat.zero_le _) (Nat.zero_le _) rfl dX7_root_10 rfl rfl ?_
  exact x_iret C (Nat.zero_le _) (Nat.zero_le _) dX7_root_13 ⟨by rw [hRES], by rw [hRES]⟩

def f_X7_cut (S : CS) (a1 : Int32) : Int32 × CS := (bind1 (f_X7_putAside S) (fun z1 => (bind1 (f_X7_cuts z1 a1) (fun z3 => (bind1 (f_X7_act z3.2 z3.1) (fun z5 => (z5.1, z5.2)))))))
def o_X7_cut (S : CS) (a1 : Int32) : Prop := (bind1 (f_X7_putAside S) (fun z1 => ((o_X7_cuts z1 a1) ∧ (bind1 (f_X7_cuts z1 a1) (fun z3 => ((o_X7_act z3.2 z3.1) ∧ (bind1 (f_X7_act z3.2 z3.1) (fun z5 => True))))))))
set_option maxRecDepth 100000 in
set_option maxHeartbeats 8000000 in
theorem c_X7_cut (l : Launch) (g : GT) (h : Nat) (ad : Nat → Nat) (S : CS) (a1 : Int32) (hok : o_X7_cut S a1) : CW l yX7_cut (.code yX7_cut cX7_cut 2 (some .int)) 5 g [.ref h, .int a1] (wMo g h ad S) (some (.int (f_X7_cut S a1).1)) (wMo g h ad (f_X7_cut S a1).2) := by
  obtain ⟨RES, hRES⟩ : ∃ z, z = (f_X7_cut S a1) := ⟨_, rfl⟩
  rw [← hRES]
  unfold f_X7_cut at hRES
  unfold o_X7_cut at hok
  refine CWx.of (nL := 2) (ret := (some .int)) (own := RX7) (cc := cX7_cut) rfl (by decide) rfl (List.forall_mem_cons.mpr ⟨rfl, (List.forall_mem_cons.mpr ⟨rfl, (fun _ h => absurd h List.not_mem_nil)⟩)⟩) (Nat.le_of_ble_eq_true rfl) ?_
  intro k C B hin hkl hkg
  subst hkl; subst hkg
  refine x_loc2 (L' := [some (.ref h), some (.int a1)]) rfl ?_
  refine x_aload_n (pc' := 1) C dX7_cut_0 rfl rfl rfl ?_
  obtain ⟨z1, ez1⟩ : ∃ z, z = (f_X7_putAside S) := ⟨_, rfl⟩
  replace hRES := bd hRES z1 ez1
  replace hok := bdP hok z1 ez1
  have hc := c_X7_putAside (kl k) (kg k) h ad S
  rw [← ez1] at hc
  refine x_WV (st := []) (st2 := []) (pc' := 4) C B hc cw_X7_94 ok_X7_putAside rfl (by decide) 0 rfl rfl [0, 1, 2, 3, 4, 5, 6] [] [0, 1, 2, 3, 4, 5, 6] (wMo (kg k) h ad z1) rfl rfl rfl rfl (by decide) rfl rfl rfl (Nat.le_of_ble_eq_true rfl) (Nat.zero_le _) (Nat.zero_le _) rfl dX7_cut_1 rfl rfl ?_
  refine x_aload_n (pc' := 5) C dX7_cut_4 rfl rfl rfl ?_
  refine x_aload_n (pc' := 6) C dX7_cut_5 rfl rfl rfl ?_
  refine x_iload_n (pc' := 7) C dX7_cut_6 rfl rfl rfl ?_
  obtain ⟨hn2, hok⟩ := hok
  obtain ⟨z3, ez3⟩ : ∃ z, z = (f_X7_cuts z1 a1) := ⟨_, rfl⟩
  replace hRES := bd hRES z3 ez3
  replace hok := bdP hok z3 ez3
  have hc := c_X7_cuts (kl k) (kg k) h ad z1 a1 hn2
  rw [← ez3] at hc
  refine x_WV (st := [.ref h]) (st2 := [.int z3.1, .ref h]) (pc' := 10) C B hc cw_X7_116 ok_X7_cuts rfl (by decide) 0 rfl rfl [0, 1, 2, 3, 4, 5, 6] [] [0, 1, 2, 3, 4, 5, 6] (wMo (kg k) h ad z3.2) rfl rfl rfl rfl (by decide) rfl rfl rfl (Nat.le_of_ble_eq_true rfl) (Nat.zero_le _) (Nat.zero_le _) rfl dX7_cut_7 rfl rfl ?_
  obtain ⟨hn4, hok⟩ := hok
  obtain ⟨z5, ez5⟩ : ∃ z, z = (f_X7_act z3.2 z3.1) := ⟨_, rfl⟩
  replace hRES := bd hRES z5 ez5
  replace hok := bdP hok z5 ez5
  have hc := c_X7_act (kl k) (kg k) h ad z3.2 z3.1 hn4
  rw [← ez5] at hc
  refine x_WV (st := []) (st2 := [.int z5.1]) (pc' := 13) C B hc cw_X7_101 ok_X7_act rfl (by decide) 0 rfl rfl [0, 1, 2, 3, 4, 5, 6] [] [0, 1, 2, 3, 4, 5, 6] (wMo (kg k) h ad z5.2) rfl rfl rfl rfl (by decide) rfl rfl rfl (Nat.le_of_ble_eq_true rfl) (Nat.zero_le _) (Nat.zero_le _) rfl dX7_cut_10 rfl rfl ?_
  exact x_iret C (Nat.zero_le _) (Nat.zero_le _) dX7_cut_13 ⟨by rw [hRES], by rw [hRES]⟩

def f_X7_join (S : CS) (a1 : Int32) : Int32 × CS := (bind1 (f_X7_putAside S) (fun z1 => (bind1 (f_X7_joins z1 a1) (fun z3 => (bind1 (f_X7_act z3.2 z3.1) (fun z5 => (z5.1, z5.2)))))))
def o_X7_join (S : CS) (a1 : Int32) : Prop := (bind1 (f_X7_putAside S) (fun z1 => ((o_X7_joins z1 a1) ∧ (bind1 (f_X7_joins z1 a1) (fun z3 => ((o_X7_act z3.2 z3.1) ∧ (bind1 (f_X7_act z3.2 z3.1) (fun z5 => True))))))))
set_option maxRecDepth 100000 in
set_option maxHeartbeats 8000000 in
theorem c_X7_join (l : Launch) (g : GT) (h : Nat) (ad : Nat → Nat) (S : CS) (a1 : Int32) (hok : o_X7_join S a1) : CW l yX7_join (.code yX7_join cX7_join 2 (some .int)) 5 g [.ref h, .int a1] (wMo g h ad S) (some (.int (f_X7_join S a1).1)) (wMo g h ad (f_X7_join S a1).2) := by
  obtain ⟨RES, hRES⟩ : ∃ z, z = (f_X7_join S a1) := ⟨_, rfl⟩
  rw [← hRES]
  unfold f_X7_join at hRES
  unfold o_X7_join at hok
  refine CWx.of (nL := 2) (ret := (some .int)) (own := RX7) (cc := cX7_join) rfl (by decide) rfl (List.forall_mem_cons.mpr ⟨rfl, (List.forall_mem_cons.mpr ⟨rfl, (fun _ h => absurd h List.not_mem_nil)⟩)⟩) (Nat.le_of_ble_eq_true rfl) ?_
  intro k C B hin hkl hkg
  subst hkl; subst hkg
  refine x_loc2 (L' := [some (.ref h), some (.int a1)]) rfl ?_
  refine x_aload_n (pc' := 1) C dX7_join_0 rfl rfl rfl ?_
  obtain ⟨z1, ez1⟩ : ∃ z, z = (f_X7_putAside S) := ⟨_, rfl⟩
  replace hRES := bd hRES z1 ez1
  replace hok := bdP hok z1 ez1
  have hc := c_X7_putAside (kl k) (kg k) h ad S
  rw [← ez1] at hc
  refine x_WV (st := []) (st2 := []) (pc' := 4) C B hc cw_X7_94 ok_X7_putAside rfl (by decide) 0 rfl rfl [0, 1, 2, 3, 4, 5, 6] [] [0, 1, 2, 3, 4, 5, 6] (wMo (kg k) h ad z1) rfl rfl rfl rfl (by decide) rfl rfl rfl (Nat.le_of_ble_eq_true rfl) (Nat.zero_le _) (Nat.zero_le _) rfl dX7_join_1 rfl rfl ?_
  refine x_aload_n (pc' := 5) C dX7_join_4 rfl rfl rfl ?_
  refine x_aload_n (pc' := 6) C dX7_join_5 rfl rfl rfl ?_
  refine x_iload_n (pc' := 7) C dX7_join_6 rfl rfl rfl ?_
  obtain ⟨hn2, hok⟩ := hok
  obtain ⟨z3, ez3⟩ : ∃ z, z = (f_X7_joins z1 a1) := ⟨_, rfl⟩
  replace hRES := bd hRES z3 ez3
  replace hok := bdP hok z3 ez3
  have hc := c_X7_joins (kl k) (kg k) h ad z1 a1 hn2
  rw [← ez3] at hc
  refine x_WV (st := [.ref h]) (st2 := [.int z3.1, .ref h]) (pc' := 10) C B hc cw_X7_119 ok_X7_joins rfl (by decide) 0 rfl rfl [0, 1, 2, 3, 4, 5, 6] [] [0, 1, 2, 3, 4, 5, 6] (wMo (kg k) h ad z3.2) rfl rfl rfl rfl (by decide) rfl rfl rfl (Nat.le_of_ble_eq_true rfl) (Nat.zero_le _) (Nat.zero_le _) rfl dX7_join_7 rfl rfl ?_
  obtain ⟨hn4, hok⟩ := hok
  obtain ⟨z5, ez5⟩ : ∃ z, z = (f_X7_act z3.2 z3.1) := ⟨_, rfl⟩
  replace hRES := bd hRES z5 ez5
  replace hok := bdP hok z5 ez5
  have hc := c_X7_act (kl k) (kg k) h ad z3.2 z3.1 hn4
  rw [← ez5] at hc
  refine x_WV (st := []) (st2 := [.int z5.1]) (pc' := 13) C B hc cw_X7_101 ok_X7_act rfl (by decide) 0 rfl rfl [0, 1, 2, 3, 4, 5, 6] [] [0, 1, 2, 3, 4, 5, 6] (wMo (kg k) h ad z5.2) rfl rfl rfl rfl (by decide) rfl rfl rfl (Nat.le_of_ble_eq_true rfl) (Nat.zero_le _) (Nat.zero_le _) rfl dX7_join_10 rfl rfl ?_
  exact x_iret C (Nat.zero_le _) (Nat.zero_le _) dX7_join_13 ⟨by rw [hRES], by rw [hRES]⟩

def f_X7_set (S : CS) (a1 : Int32) (a2 : Int32) : Int32 × CS := (bind1 (f_X7_putAside S) (fun z1 => (bind1 (f_X7_sets z1 a1 a2) (fun z3 => (bind1 (f_X7_act z3.2 z3.1) (fun z5 => (z5.1, z5.2)))))))
def o_X7_set (S : CS) (a1 : Int32) (a2 : Int32) : Prop := (bind1 (f_X7_putAside S) (fun z1 => ((o_X7_sets z1 a1 a2) ∧ (bind1 (f_X7_sets z1 a1 a2) (fun z3 => ((o_X7_act z3.2 z3.1) ∧ (bind1 (f_X7_act z3.2 z3.1) (fun z5 => True))))))))
set_option maxRecDepth 100000 in
set_option maxHeartbeats 8000000 in
theorem c_X7_set (l : Launch) (g : GT) (h : Nat) (ad : Nat → Nat) (S : CS) (a1 : Int32) (a2 : Int32) (hok : o_X7_set S a1 a2) : CW l yX7_set (.code yX7_set cX7_set 3 (some .int)) 2 g [.ref h, .int a1, .int a2] (wMo g h ad S) (some (.int (f_X7_set S a1 a2).1)) (wMo g h ad (f_X7_set S a1 a2).2) := by
  obtain ⟨RES, hRES⟩ : ∃ z, z = (f_X7_set S a1 a2) := ⟨_, rfl⟩
  rw [← hRES]
  unfold f_X7_set at hRES
  unfold o_X7_set at hok
  refine CWx.of (nL := 3) (ret := (some .int)) (own := RX7) (cc := cX7_set) rfl (by decide) rfl (List.forall_mem_cons.mpr ⟨rfl, (List.forall_mem_cons.mpr ⟨rfl, (List.forall_mem_cons.mpr ⟨rfl, (fun _ h => absurd h List.not_mem_nil)⟩)⟩)⟩) (Nat.le_of_ble_eq_true rfl) ?_
  intro k C B hin hkl hkg
  subst hkl; subst hkg
  refine x_loc2 (L' := [some (.ref h), some (.int a1), some (.int a2)]) rfl ?_
  refine x_aload_n (pc' := 1) C dX7_set_0 rfl rfl rfl ?_
  obtain ⟨z1, ez1⟩ : ∃ z, z = (f_X7_putAside S) := ⟨_, rfl⟩
  replace hRES := bd hRES z1 ez1
  replace hok := bdP hok z1 ez1
  have hc := c_X7_putAside (kl k) (kg k) h ad S
  rw [← ez1] at hc
  refine x_WV (st := []) (st2 := []) (pc' := 4) C B hc cw_X7_94 ok_X7_putAside rfl (by decide) 0 rfl rfl [0, 1, 2, 3, 4, 5, 6] [] [0, 1, 2, 3, 4, 5, 6] (wMo (kg k) h ad z1) rfl rfl rfl rfl (by decide) rfl rfl rfl (Nat.le_of_ble_eq_true rfl) (Nat.zero_le _) (Nat.zero_le _) rfl dX7_set_1 rfl rfl ?_
  refine x_aload_n (pc' := 5) C dX7_set_4 rfl rfl rfl ?_
  refine x_aload_n (pc' := 6) C dX7_set_5 rfl rfl rfl ?_
  refine x_iload_n (pc' := 7) C dX7_set_6 rfl rfl rfl ?_
  refine x_iload_n (pc' := 8) C dX7_set_7 rfl rfl rfl ?_
  obtain ⟨hn2, hok⟩ := hok
  obtain ⟨z3, ez3⟩ : ∃ z, z = (f_X7_sets z1 a1 a2) := ⟨_, rfl⟩
  replace hRES := bd hRES z3 ez3
  replace hok := bdP hok z3 ez3
  have hc := c_X7_sets (kl k) (kg k) h ad z1 a1 a2 hn2
  rw [← ez3] at hc
  refine x_WV (st := [.ref h]) (st2 := [.int z3.1, .ref h]) (pc' := 11) C B hc cw_X7_122 ok_X7_sets rfl (by decide) 0 rfl rfl [0, 1, 2, 3, 4, 5, 6] [] [0, 1, 2, 3, 4, 5, 6] (wMo (kg k) h ad z3.2) rfl rfl rfl rfl (by decide) rfl rfl rfl (Nat.le_of_ble_eq_true rfl) (Nat.zero_le _) (Nat.zero_le _) rfl dX7_set_8 rfl rfl ?_
  obtain ⟨hn4, hok⟩ := hok
  obtain ⟨z5, ez5⟩ : ∃ z, z = (f_X7_act z3.2 z3.1) := ⟨_, rfl⟩
  replace hRES := bd hRES z5 ez5
  replace hok := bdP hok z5 ez5
  have hc := c_X7_act (kl k) (kg k) h ad z3.2 z3.1 hn4
  rw [← ez5] at hc
  refine x_WV (st := []) (st2 := [.int z5.1]) (pc' := 14) C B hc cw_X7_101 ok_X7_act rfl (by decide) 0 rfl rfl [0, 1, 2, 3, 4, 5, 6] [] [0, 1, 2, 3, 4, 5, 6] (wMo (kg k) h ad z5.2) rfl rfl rfl rfl (by decide) rfl rfl rfl (Nat.le_of_ble_eq_true rfl) (Nat.zero_le _) (Nat.zero_le _) rfl dX7_set_11 rfl rfl ?_
  exact x_iret C (Nat.zero_le _) (Nat.zero_le _) dX7_set_14 ⟨by rw [hRES], by rw [hRES]⟩

def f_X7_type (S : CS) (a1 : Int32) : Int32 × CS := (if S.1 7 = 80 then ((-3), S) else (bind1 (setF S 6 (upd (S.2 6) (S.1 7).toNatClampNeg a1)) (fun z3 => (bind1 (setI z3 7 (z3.1 7 + 1)) (fun z4 => (z4.1 7, z4))))))
def o_X7_type (S : CS) (a1 : Int32) : Prop := ((S.1 7 = 80 → True) ∧ (¬ (S.1 7 = 80) → (vp_in (S.1 7) 80 ∧ (bind1 (setF S 6 (upd (S.2 6) (S.1 7).toNatClampNeg a1)) (fun z3 => (bind1 (setI z3 7 (z3.1 7 + 1)) (fun z4 => True)))))))
set_option maxRecDepth 100000 in
set_option maxHeartbeats 8000000 in
theorem c_X7_type (l : Launch) (g : GT) (h : Nat) (ad : Nat → Nat) (S : CS) (a1 : Int32) (hok : o_X7_type S a1) : CW l yX7_type (.code yX7_type cX7_type 2 (some .int)) 0 g [.ref h, .int a1] (wMo g h ad S) (some (.int (f_X7_type S a1).1)) (wMo g h ad (f_X7_type S a1).2) := by
  obtain ⟨RES, hRES⟩ : ∃ z, z = (f_X7_type S a1) := ⟨_, rfl⟩
  rw [← hRES]
  unfold f_X7_type at hRES
  unfold o_X7_type at hok
  refine CWx.of (nL := 2) (ret := (some .int)) (own := RX7) (cc := cX7_type) rfl (by decide) rfl (List.forall_mem_cons.mpr ⟨rfl, (List.forall_mem_cons.mpr ⟨rfl, (fun _ h => absurd h List.not_mem_nil)⟩)⟩) (Nat.le_of_ble_eq_true rfl) ?_
  intro k C B hin hkl hkg
  subst hkl; subst hkg
  refine x_loc2 (L' := [some (.ref h), some (.int a1)]) rfl ?_
  refine x_aload_n (pc' := 1) C dX7_type_0 rfl rfl rfl ?_
  refine x_get (pc' := 4) (v := .int (S.1 7)) C 0 7 inBX7 rfl rfl (by decide) fl_X7_125 rfl rfl dX7_type_1 rfl ?_
  refine x_bipush (v := 80) (pc' := 6) C dX7_type_4 rfl (by decide) ?_
  refine x_icmp_ne (tgt := 12) (pc' := 9) C dX7_type_6 (by decide) rfl (fun c1 => ?_) (fun c1 => ?_)
  · rw [if_neg c1] at hRES
    replace hok := hok.2 c1
    refine x_aload_n (pc' := 13) C dX7_type_12 rfl rfl rfl ?_
    refine x_get (pc' := 16) (v := .ref (ad 6)) C 0 6 inBX7 rfl rfl (by decide) fl_X7_22 rfl rfl dX7_type_13 rfl ?_
    refine x_aload_n (pc' := 17) C dX7_type_16 rfl rfl rfl ?_
    refine x_get (pc' := 20) (v := .int (S.1 7)) C 0 7 inBX7 rfl rfl (by decide) fl_X7_125 rfl rfl dX7_type_17 rfl ?_
    refine x_iload_n (pc' := 21) C dX7_type_20 rfl rfl rfl ?_
    obtain ⟨hn2, hok⟩ := hok
    obtain ⟨z3, ez3⟩ : ∃ z, z = (setF S 6 (upd (S.2 6) (S.1 7).toNatClampNeg a1)) := ⟨_, rfl⟩
    replace hRES := bd hRES z3 ez3
    replace hok := bdP hok z3 ez3
    refine x_iast (pc' := 22) (f := S.2 6) (w' := wMo (kg k) h ad z3) C B 5 rfl hn2 dX7_type_21 rfl (by rw [ez3]; rfl) ?_
    refine x_aload_n (pc' := 23) C dX7_type_22 rfl rfl rfl ?_
    refine x_dup (pc' := 24) C dX7_type_23 rfl rfl ?_
    refine x_get (pc' := 27) (v := .int (z3.1 7)) C 0 7 inBX7 rfl rfl (by decide) fl_X7_125 rfl rfl dX7_type_24 rfl ?_
    refine x_iconst (v := 1) (pc' := 28) C dX7_type_27 rfl (by decide) ?_
    refine x_iadd (pc' := 29) (v := (z3.1 7 + 1)) C dX7_type_28 rfl rfl ?_
    obtain ⟨z4, ez4⟩ : ∃ z, z = (setI z3 7 (z3.1 7 + 1)) := ⟨_, rfl⟩
    replace hRES := bd hRES z4 ez4
    replace hok := bdP hok z4 ez4
    refine x_put (pc' := 32) (w' := wMo (kg k) h ad z4) (ty := .int) C B 0 7 inBX7 tyX7 tyX7_ok nmX7 rfl rfl (by decide) fl_X7_125 rfl rfl rfl rfl rfl (Nat.le_of_ble_eq_true rfl) dX7_type_29 rfl (by rw [ez4]; rfl) ?_
    refine x_aload_n (pc' := 33) C dX7_type_32 rfl rfl rfl ?_
    refine x_get (pc' := 36) (v := .int (z4.1 7)) C 0 7 inBX7 rfl rfl (by decide) fl_X7_125 rfl rfl dX7_type_33 rfl ?_
    exact x_iret C (Nat.zero_le _) (Nat.zero_le _) dX7_type_36 ⟨by rw [hRES], by rw [hRES]⟩
  · rw [if_pos c1] at hRES
    replace hok := hok.1 c1
    refine x_bipush (v := (-3)) (pc' := 11) C dX7_type_9 rfl (by decide) ?_
    exact x_iret C (Nat.zero_le _) (Nat.zero_le _) dX7_type_11 ⟨by rw [hRES], by rw [hRES]⟩

def f_X7_clearText (S : CS) : Int32 × CS := (bind1 (setI S 7 0) (fun z1 => (S.1 7, z1)))
set_option maxRecDepth 100000 in
set_option maxHeartbeats 8000000 in
theorem c_X7_clearText (l : Launch) (g : GT) (h : Nat) (ad : Nat → Nat) (S : CS) : CW l yX7_clearText (.code yX7_clearText cX7_clearText 2 (some .int)) 0 g [.ref h] (wMo g h ad S) (some (.int (f_X7_clearText S).1)) (wMo g h ad (f_X7_clearText S).2) := by
  obtain ⟨RES, hRES⟩ : ∃ z, z = (f_X7_clearText S) := ⟨_, rfl⟩
  rw [← hRES]
  unfold f_X7_clearText at hRES
  refine CWx.of (nL := 2) (ret := (some .int)) (own := RX7) (cc := cX7_clearText) rfl (by decide) rfl (List.forall_mem_cons.mpr ⟨rfl, (fun _ h => absurd h List.not_mem_nil)⟩) (Nat.le_of_ble_eq_true rfl) ?_
  intro k C B hin hkl hkg
  subst hkl; subst hkg
  refine x_loc2 (L' := [some (.ref h), none]) rfl ?_
  refine x_aload_n (pc' := 1) C dX7_clearText_0 rfl rfl rfl ?_
  refine x_get (pc' := 4) (v := .int (S.1 7)) C 0 7 inBX7 rfl rfl (by decide) fl_X7_125 rfl rfl dX7_clearText_1 rfl ?_
  refine x_istore_n (pc' := 5) (L' := [some (.ref h), some (.int (S.1 7))]) C dX7_clearText_4 rfl rfl (Nat.le_of_ble_eq_true rfl) rfl ?_
  refine x_aload_n (pc' := 6) C dX7_clearText_5 rfl rfl rfl ?_
  refine x_iconst (v := 0) (pc' := 7) C dX7_clearText_6 rfl (by decide) ?_
  obtain ⟨z1, ez1⟩ : ∃ z, z = (setI S 7 0) := ⟨_, rfl⟩
  replace hRES := bd hRES z1 ez1
  refine x_put (pc' := 10) (w' := wMo (kg k) h ad z1) (ty := .int) C B 0 7 inBX7 tyX7 tyX7_ok nmX7 rfl rfl (by decide) fl_X7_125 rfl rfl rfl rfl rfl (Nat.le_of_ble_eq_true rfl) dX7_clearText_7 rfl (by rw [ez1]; rfl) ?_
  refine x_iload_n (pc' := 11) C dX7_clearText_10 rfl rfl rfl ?_
  exact x_iret C (Nat.zero_le _) (Nat.zero_le _) dX7_clearText_11 ⟨by rw [hRES], by rw [hRES]⟩

def f_X7_perform (S : CS) : Int32 × CS := (bind1 (f_X7_go S 0) (fun z2 => (if z2.2.1 14 = 0 then (bind1 (f_X7_putAside z2.2) (fun z4 => (bind1 (f_X7_go z4 1) (fun z6 => (if z6.1 < 0 then (bind1 (f_X7_putBack z6.2) (fun z10 => (bind1 (f_X7_act z10 z6.1) (fun z12 => (z12.1, z12.2))))) else (bind1 (f_X7_act z6.2 z6.1) (fun z9 => (z9.1, z9.2)))))))) else (((-100) - z2.2.1 13), z2.2))))
def o_X7_perform (S : CS) : Prop := ((o_X7_go S 0) ∧ (bind1 (f_X7_go S 0) (fun z2 => ((z2.2.1 14 = 0 → (bind1 (f_X7_putAside z2.2) (fun z4 => ((o_X7_go z4 1) ∧ (bind1 (f_X7_go z4 1) (fun z6 => ((z6.1 < 0 → (bind1 (f_X7_putBack z6.2) (fun z10 => ((o_X7_act z10 z6.1) ∧ (bind1 (f_X7_act z10 z6.1) (fun z12 => True)))))) ∧ (¬ (z6.1 < 0) → ((o_X7_act z6.2 z6.1) ∧ (bind1 (f_X7_act z6.2 z6.1) (fun z9 => True))))))))))) ∧ (¬ (z2.2.1 14 = 0) → True)))))
set_option maxRecDepth 100000 in
set_option maxHeartbeats 8000000 in
theorem c_X7_perform (l : Launch) (g : GT) (h : Nat) (ad : Nat → Nat) (S : CS) (hok : o_X7_perform S) : CW l yX7_perform (.code yX7_perform cX7_perform 3 (some .int)) 8 g [.ref h] (wMo g h ad S) (some (.int (f_X7_perform S).1)) (wMo g h ad (f_X7_perform S).2) := by
  obtain ⟨RES, hRES⟩ : ∃ z, z = (f_X7_perform S) := ⟨_, rfl⟩
  rw [← hRES]
  unfold f_X7_perform at hRES
  unfold o_X7_perform at hok
  refine CWx.of (nL := 3) (ret := (some .int)) (own := RX7) (cc := cX7_perform) rfl (by decide) rfl (List.forall_mem_cons.mpr ⟨rfl, (fun _ h => absurd h List.not_mem_nil)⟩) (Nat.le_of_ble_eq_true rfl) ?_
  intro k C B hin hkl hkg
  subst hkl; subst hkg
  refine x_loc2 (L' := [some (.ref h), none, none]) rfl ?_
  refine x_aload_n (pc' := 1) C dX7_perform_0 rfl rfl rfl ?_
  refine x_iconst (v := 0) (pc' := 2) C dX7_perform_1 rfl (by decide) ?_
  obtain ⟨hn1, hok⟩ := hok
  obtain ⟨z2, ez2⟩ : ∃ z, z = (f_X7_go S 0) := ⟨_, rfl⟩
  replace hRES := bd hRES z2 ez2
  replace hok := bdP hok z2 ez2
  have hc := c_X7_go (kl k) (kg k) h ad S 0 hn1
  rw [← ez2] at hc
  refine x_WV (st := []) (st2 := [.int z2.1]) (pc' := 5) C B hc cw_X7_172 ok_X7_go rfl (by decide) 0 rfl rfl [0, 1, 2, 3, 4, 5, 6] [] [0, 1, 2, 3, 4, 5, 6] (wMo (kg k) h ad z2.2) rfl rfl rfl rfl (by decide) rfl rfl rfl (Nat.le_of_ble_eq_true rfl) (Nat.zero_le _) (Nat.zero_le _) rfl dX7_perform_2 rfl rfl ?_
  refine x_istore_n (pc' := 6) (L' := [some (.ref h), some (.int z2.1), none]) C dX7_perform_5 rfl rfl (Nat.le_of_ble_eq_true rfl) rfl ?_
  refine x_aload_n (pc' := 7) C dX7_perform_6 rfl rfl rfl ?_
  refine x_get (pc' := 10) (v := .int (z2.2.1 14)) C 0 14 inBX7 rfl rfl (by decide) fl_X7_128 rfl rfl dX7_perform_7 rfl ?_
  refine x_if_eq (tgt := 21) (pc' := 13) C dX7_perform_10 (by decide) rfl (fun c3 => ?_) (fun c3 => ?_)
  · rw [if_pos c3] at hRES
    replace hok := hok.1 c3
    refine x_aload_n (pc' := 22) C dX7_perform_21 rfl rfl rfl ?_
    obtain ⟨z4, ez4⟩ : ∃ z, z = (f_X7_putAside z2.2) := ⟨_, rfl⟩
    replace hRES := bd hRES z4 ez4
    replace hok := bdP hok z4 ez4
    have hc := c_X7_putAside (kl k) (kg k) h ad z2.2
    rw [← ez4] at hc
    refine x_WV (st := []) (st2 := []) (pc' := 25) C B hc cw_X7_94 ok_X7_putAside rfl (by decide) 0 rfl rfl [0, 1, 2, 3, 4, 5, 6] [] [0, 1, 2, 3, 4, 5, 6] (wMo (kg k) h ad z4) rfl rfl rfl rfl (by decide) rfl rfl rfl (Nat.le_of_ble_eq_true rfl) (Nat.zero_le _) (Nat.zero_le _) rfl dX7_perform_22 rfl rfl ?_
    refine x_aload_n (pc' := 26) C dX7_perform_25 rfl rfl rfl ?_
    refine x_iconst (v := 1) (pc' := 27) C dX7_perform_26 rfl (by decide) ?_
    obtain ⟨hn5, hok⟩ := hok
    obtain ⟨z6, ez6⟩ : ∃ z, z = (f_X7_go z4 1) := ⟨_, rfl⟩
    replace hRES := bd hRES z6 ez6
    replace hok := bdP hok z6 ez6
    have hc := c_X7_go (kl k) (kg k) h ad z4 1 hn5
    rw [← ez6] at hc
    refine x_WV (st := []) (st2 := [.int z6.1]) (pc' := 30) C B hc cw_X7_172 ok_X7_go rfl (by decide) 0 rfl rfl [0, 1, 2, 3, 4, 5, 6] [] [0, 1, 2, 3, 4, 5, 6] (wMo (kg k) h ad z6.2) rfl rfl rfl rfl (by decide) rfl rfl rfl (Nat.le_of_ble_eq_true rfl) (Nat.zero_le _) (Nat.zero_le _) rfl dX7_perform_27 rfl rfl ?_
    refine x_istore_n (pc' := 31) (L' := [some (.ref h), some (.int z2.1), some (.int z6.1)]) C dX7_perform_30 rfl rfl (Nat.le_of_ble_eq_true rfl) rfl ?_
    refine x_iload_n (pc' := 32) C dX7_perform_31 rfl rfl rfl ?_
    refine x_if_ge (tgt := 39) (pc' := 35) C dX7_perform_32 (by decide) rfl (fun c7 => ?_) (fun c7 => ?_)
    · rw [if_neg c7] at hRES
      replace hok := hok.2 c7
      refine x_aload_n (pc' := 40) C dX7_perform_39 rfl rfl rfl ?_
      refine x_iload_n (pc' := 41) C dX7_perform_40 rfl rfl rfl ?_
      obtain ⟨hn8, hok⟩ := hok
      obtain ⟨z9, ez9⟩ : ∃ z, z = (f_X7_act z6.2 z6.1) := ⟨_, rfl⟩
      replace hRES := bd hRES z9 ez9
      replace hok := bdP hok z9 ez9
      have hc := c_X7_act (kl k) (kg k) h ad z6.2 z6.1 hn8
      rw [← ez9] at hc
      refine x_WV (st := []) (st2 := [.int z9.1]) (pc' := 44) C B hc cw_X7_101 ok_X7_act rfl (by decide) 0 rfl rfl [0, 1, 2, 3, 4, 5, 6] [] [0, 1, 2, 3, 4, 5, 6] (wMo (kg k) h ad z9.2) rfl rfl rfl rfl (by decide) rfl rfl rfl (Nat.le_of_ble_eq_true rfl) (Nat.zero_le _) (Nat.zero_le _) rfl dX7_perform_41 rfl rfl ?_
      exact x_iret C (Nat.zero_le _) (Nat.zero_le _) dX7_perform_44 ⟨by rw [hRES], by rw [hRES]⟩
    · rw [if_pos c7] at hRES
      replace hok := hok.1 c7
      refine x_aload_n (pc' := 36) C dX7_perform_35 rfl rfl rfl ?_
      obtain ⟨z10, ez10⟩ : ∃ z, z = (f_X7_putBack z6.2) := ⟨_, rfl⟩
      replace hRES := bd hRES z10 ez10
      replace hok := bdP hok z10 ez10
      have hc := c_X7_putBack (kl k) (kg k) h ad z6.2
      rw [← ez10] at hc
      refine x_WV (st := []) (st2 := []) (pc' := 39) C B hc cw_X7_176 ok_X7_putBack rfl (by decide) 0 rfl rfl [0, 1, 2, 3, 4, 5, 6] [] [0, 1, 2, 3, 4, 5, 6] (wMo (kg k) h ad z10) rfl rfl rfl rfl (by decide) rfl rfl rfl (Nat.le_of_ble_eq_true rfl) (Nat.zero_le _) (Nat.zero_le _) rfl dX7_perform_36 rfl rfl ?_
      refine x_aload_n (pc' := 40) C dX7_perform_39 rfl rfl rfl ?_
      refine x_iload_n (pc' := 41) C dX7_perform_40 rfl rfl rfl ?_
      obtain ⟨hn11, hok⟩ := hok
      obtain ⟨z12, ez12⟩ : ∃ z, z = (f_X7_act z10 z6.1) := ⟨_, rfl⟩
      replace hRES := bd hRES z12 ez12
      replace hok := bdP hok z12 ez12
      have hc := c_X7_act (kl k) (kg k) h ad z10 z6.1 hn11
      rw [← ez12] at hc
      refine x_WV (st := []) (st2 := [.int z12.1]) (pc' := 44) C B hc cw_X7_101 ok_X7_act rfl (by decide) 0 rfl rfl [0, 1, 2, 3, 4, 5, 6] [] [0, 1, 2, 3, 4, 5, 6] (wMo (kg k) h ad z12.2) rfl rfl rfl rfl (by decide) rfl rfl rfl (Nat.le_of_ble_eq_true rfl) (Nat.zero_le _) (Nat.zero_le _) rfl dX7_perform_41 rfl rfl ?_
      exact x_iret C (Nat.zero_le _) (Nat.zero_le _) dX7_perform_44 ⟨by rw [hRES], by rw [hRES]⟩
  · rw [if_neg c3] at hRES
    replace hok := hok.2 c3
    refine x_bipush (v := (-100)) (pc' := 15) C dX7_perform_13 rfl (by decide) ?_
    refine x_aload_n (pc' := 16) C dX7_perform_15 rfl rfl rfl ?_
    refine x_get (pc' := 19) (v := .int (z2.2.1 13)) C 0 13 inBX7 rfl rfl (by decide) fl_X7_132 rfl rfl dX7_perform_16 rfl ?_
    refine x_isub (pc' := 20) (v := ((-100) - z2.2.1 13)) C dX7_perform_19 rfl rfl ?_
    exact x_iret C (Nat.zero_le _) (Nat.zero_le _) dX7_perform_20 ⟨by rw [hRES], by rw [hRES]⟩

def f_X7_stopped (S : CS) (a1 : Int32) : Int32 := (if (f_X7_in a1 0 1) = true then (if S.1 8 = (-5) then (-5) else (if a1 = 0 then (S.1 8) else (S.1 9))) else (-2))
set_option maxRecDepth 100000 in
set_option maxHeartbeats 8000000 in
theorem c_X7_stopped (l : Launch) (g : GT) (h : Nat) (ad : Nat → Nat) (S : CS) (a1 : Int32) : CR l yX7_stopped (.code yX7_stopped cX7_stopped 2 (some .int)) 1 g [.ref h, .int a1] (wMo g h ad S) (some (.int (f_X7_stopped S a1))) := by
  obtain ⟨RES, hRES⟩ : ∃ z, z = (f_X7_stopped S a1) := ⟨_, rfl⟩
  rw [← hRES]
  unfold f_X7_stopped at hRES
  refine CRx.of (nL := 2) (ret := (some .int)) (own := RX7) (cc := cX7_stopped) rfl (by decide) rfl (List.forall_mem_cons.mpr ⟨rfl, (List.forall_mem_cons.mpr ⟨rfl, (fun _ h => absurd h List.not_mem_nil)⟩)⟩) (Nat.le_of_ble_eq_true rfl) ?_
  intro k C hkl hkg
  subst hkl; subst hkg
  refine x_loc2 (L' := [some (.ref h), some (.int a1)]) rfl ?_
  refine x_iload_n (pc' := 1) C dX7_stopped_0 rfl rfl rfl ?_
  refine x_iconst (v := 0) (pc' := 2) C dX7_stopped_1 rfl (by decide) ?_
  refine x_iconst (v := 1) (pc' := 3) C dX7_stopped_2 rfl (by decide) ?_
  refine x_RS (st := []) (st2 := [.int (bI (f_X7_in a1 0 1))]) (pc' := 6) C (c_X7_in (kl k) (kg k) a1 0 1) cw_X7_36 ok_X7_in (by decide) [] rfl rfl rfl (Nat.le_of_ble_eq_true rfl) (Nat.zero_le _) (Nat.zero_le _) rfl dX7_stopped_3 rfl rfl ?_
  refine x_ifB_ne (tgt := 14) (pc' := 9) C dX7_stopped_6 (by decide) rfl (fun c1 => ?_) (fun c1 => ?_)
  · rw [if_pos c1] at hRES
    refine x_aload_n (pc' := 15) C dX7_stopped_14 rfl rfl rfl ?_
    refine x_get (pc' := 18) (v := .int (S.1 8)) C 0 8 inBX7 rfl rfl (by decide) fl_X7_25 rfl rfl dX7_stopped_15 rfl ?_
    refine x_bipush (v := (-5)) (pc' := 20) C dX7_stopped_18 rfl (by decide) ?_
    refine x_icmp_ne (tgt := 28) (pc' := 23) C dX7_stopped_20 (by decide) rfl (fun c2 => ?_) (fun c2 => ?_)
    · rw [if_neg c2] at hRES
      refine x_iload_n (pc' := 29) C dX7_stopped_28 rfl rfl rfl ?_
      refine x_if_ne (tgt := 39) (pc' := 32) C dX7_stopped_29 (by decide) rfl (fun c3 => ?_) (fun c3 => ?_)
      · rw [if_neg c3] at hRES
        refine x_aload_n (pc' := 40) C dX7_stopped_39 rfl rfl rfl ?_
        refine x_get (pc' := 43) (v := .int (S.1 9)) C 0 9 inBX7 rfl rfl (by decide) fl_X7_169 rfl rfl dX7_stopped_40 rfl ?_
        exact x_iret C (Nat.zero_le _) (Nat.zero_le _) dX7_stopped_43 (by rw [hRES])
      · rw [if_pos c3] at hRES
        refine x_aload_n (pc' := 33) C dX7_stopped_32 rfl rfl rfl ?_
        refine x_get (pc' := 36) (v := .int (S.1 8)) C 0 8 inBX7 rfl rfl (by decide) fl_X7_25 rfl rfl dX7_stopped_33 rfl ?_
        refine x_goto (tgt := 43) C dX7_stopped_36 (by decide) ?_
        exact x_iret C (Nat.zero_le _) (Nat.zero_le _) dX7_stopped_43 (by rw [hRES])
    · rw [if_pos c2] at hRES
      refine x_bipush (v := (-5)) (pc' := 25) C dX7_stopped_23 rfl (by decide) ?_
      refine x_goto (tgt := 43) C dX7_stopped_25 (by decide) ?_
      exact x_iret C (Nat.zero_le _) (Nat.zero_le _) dX7_stopped_43 (by rw [hRES])
  · rw [if_neg c1] at hRES
    refine x_bipush (v := (-2)) (pc' := 11) C dX7_stopped_9 rfl (by decide) ?_
    refine x_goto (tgt := 43) C dX7_stopped_11 (by decide) ?_
    exact x_iret C (Nat.zero_le _) (Nat.zero_le _) dX7_stopped_43 (by rw [hRES])

def k_X7_undo_56 (S_56 : CS) : Int32 × CS := (S_56.1 3, S_56)
def ok_X7_undo_56 (S_56 : CS) : Prop := True
def l_X7_undo_22 : Nat → CS → Nat → Int32 × CS
  | 0, _, _ => (0, dfCS)
  | n22 + 1, S_22, i1_22 => (if i1_22 < 318 then (bind1 (setF S_22 0 (upd (S_22.2 0) i1_22 ((S_22.2 2) (((318 * S_22.1 3) + (nI i1_22))).toNatClampNeg))) (fun z5 => (l_X7_undo_22 n22 z5 (i1_22 + 1)))) else (k_X7_undo_56 S_22))
def ol_X7_undo_22 : Nat → CS → Nat → Prop
  | 0, _, _ => True
  | n22 + 1, S_22, i1_22 => ((i1_22 < 318 → (vp_in ((318 * S_22.1 3) + (nI i1_22)) 1272 ∧ (bind1 (setF S_22 0 (upd (S_22.2 0) i1_22 ((S_22.2 2) (((318 * S_22.1 3) + (nI i1_22))).toNatClampNeg))) (fun z5 => (ol_X7_undo_22 n22 z5 (i1_22 + 1)))))) ∧ (¬ (i1_22 < 318) → (ok_X7_undo_56 S_22)))
def f_X7_undo (S : CS) : Int32 × CS := (if S.1 3 = 0 then ((-5), S) else (bind1 (setI S 3 (S.1 3 - 1)) (fun z2 => (l_X7_undo_22 319 z2 0))))
def o_X7_undo (S : CS) : Prop := ((S.1 3 = 0 → True) ∧ (¬ (S.1 3 = 0) → (bind1 (setI S 3 (S.1 3 - 1)) (fun z2 => (ol_X7_undo_22 319 z2 0)))))
set_option maxRecDepth 100000 in
set_option maxHeartbeats 8000000 in
theorem c_X7_undo (l : Launch) (g : GT) (h : Nat) (ad : Nat → Nat) (S : CS) (hok : o_X7_undo S) : CW l yX7_undo (.code yX7_undo cX7_undo 2 (some .int)) 0 g [.ref h] (wMo g h ad S) (some (.int (f_X7_undo S).1)) (wMo g h ad (f_X7_undo S).2) := by
  obtain ⟨RES, hRES⟩ : ∃ z, z = (f_X7_undo S) := ⟨_, rfl⟩
  rw [← hRES]
  unfold f_X7_undo at hRES
  unfold o_X7_undo at hok
  refine CWx.of (nL := 2) (ret := (some .int)) (own := RX7) (cc := cX7_undo) rfl (by decide) rfl (List.forall_mem_cons.mpr ⟨rfl, (fun _ h => absurd h List.not_mem_nil)⟩) (Nat.le_of_ble_eq_true rfl) ?_
  intro k C B hin hkl hkg
  subst hkl; subst hkg
  refine x_loc2 (L' := [some (.ref h), none]) rfl ?_
  refine x_aload_n (pc' := 1) C dX7_undo_0 rfl rfl rfl ?_
  refine x_get (pc' := 4) (v := .int (S.1 3)) C 0 3 inBX7 rfl rfl (by decide) fl_X7_40 rfl rfl dX7_undo_1 rfl ?_
  refine x_if_ne (tgt := 10) (pc' := 7) C dX7_undo_4 (by decide) rfl (fun c1 => ?_) (fun c1 => ?_)
  · rw [if_neg c1] at hRES
    replace hok := hok.2 c1
    refine x_aload_n (pc' := 11) C dX7_undo_10 rfl rfl rfl ?_
    refine x_dup (pc' := 12) C dX7_undo_11 rfl rfl ?_
    refine x_get (pc' := 15) (v := .int (S.1 3)) C 0 3 inBX7 rfl rfl (by decide) fl_X7_40 rfl rfl dX7_undo_12 rfl ?_
    refine x_iconst (v := 1) (pc' := 16) C dX7_undo_15 rfl (by decide) ?_
    refine x_isub (pc' := 17) (v := (S.1 3 - 1)) C dX7_undo_16 rfl rfl ?_
    obtain ⟨z2, ez2⟩ : ∃ z, z = (setI S 3 (S.1 3 - 1)) := ⟨_, rfl⟩
    replace hRES := bd hRES z2 ez2
    replace hok := bdP hok z2 ez2
    refine x_put (pc' := 20) (w' := wMo (kg k) h ad z2) (ty := .int) C B 0 3 inBX7 tyX7 tyX7_ok nmX7 rfl rfl (by decide) fl_X7_40 rfl rfl rfl rfl rfl (Nat.le_of_ble_eq_true rfl) dX7_undo_17 rfl (by rw [ez2]; rfl) ?_
    refine x_iconst (v := 0) (pc' := 21) C dX7_undo_20 rfl (by decide) ?_
    refine x_istore_n (pc' := 22) (L' := [some (.ref h), some (.int 0)]) C dX7_undo_21 rfl rfl (Nat.le_of_ble_eq_true rfl) rfl ?_
    have cont56 : ∀ (S_56 : CS), RES = k_X7_undo_56 S_56 → ok_X7_undo_56 S_56 → X k 0 0 (wMo (kg k) h ad S_56) 56 [some (.ref h), none] [] := by
      intro S_56 hRES hok
      unfold k_X7_undo_56 at hRES
      unfold ok_X7_undo_56 at hok
      refine x_aload_n (pc' := 57) C dX7_undo_56 rfl rfl rfl ?_
      refine x_get (pc' := 60) (v := .int (S_56.1 3)) C 0 3 inBX7 rfl rfl (by decide) fl_X7_40 rfl rfl dX7_undo_57 rfl ?_
      exact x_iret C (Nat.zero_le _) (Nat.zero_le _) dX7_undo_60 ⟨by rw [hRES], by rw [hRES]⟩
    have loop22 : ∀ (n22 : Nat) (S_22 : CS) (i1_22 : Nat), i1_22 ≤ 318 → 318 < i1_22 + n22 → RES = l_X7_undo_22 n22 S_22 i1_22 → ol_X7_undo_22 n22 S_22 i1_22 → X k 0 0 (wMo (kg k) h ad S_22) 22 [some (.ref h), some (.int (nI i1_22))] [] := by
      intro n22
      induction n22 with
      | zero =>
        intro S_22 i1_22 hb22 hf22 hRES hok
        omega
      | succ n22 ih22 =>
        intro S_22 i1_22 hb22 hf22 hRES hok
        rw [l_X7_undo_22] at hRES
        rw [ol_X7_undo_22] at hok
        refine x_iload_n (pc' := 23) C dX7_undo_22 rfl rfl rfl ?_
        refine x_sipush (v := 318) (pc' := 26) C dX7_undo_23 rfl (by decide) ?_
        refine x_icmpN_ge (tgt := 56) (pc' := 29) C i1_22 318 dX7_undo_26 (by decide) rfl (by omega) (by omega) (fun c3 => ?_) (fun c3 => ?_)
        · rw [if_neg c3] at hRES
          replace hok := hok.2 c3
          refine x_forget (L' := [some (.ref h), none]) [0] rfl rfl ?_
          exact cont56 S_22 hRES hok
        · rw [if_pos c3] at hRES
          replace hok := hok.1 c3
          refine x_aload_n (pc' := 30) C dX7_undo_29 rfl rfl rfl ?_
          refine x_get (pc' := 33) (v := .ref (ad 0)) C 0 0 inBX7 rfl rfl (by decide) fl_X7_7 rfl rfl dX7_undo_30 rfl ?_
          refine x_iload_n (pc' := 34) C dX7_undo_33 rfl rfl rfl ?_
          refine x_aload_n (pc' := 35) C dX7_undo_34 rfl rfl rfl ?_
          refine x_get (pc' := 38) (v := .ref (ad 2)) C 0 2 inBX7 rfl rfl (by decide) fl_X7_16 rfl rfl dX7_undo_35 rfl ?_
          refine x_sipush (v := 318) (pc' := 41) C dX7_undo_38 rfl (by decide) ?_
          refine x_aload_n (pc' := 42) C dX7_undo_41 rfl rfl rfl ?_
          refine x_get (pc' := 45) (v := .int (S_22.1 3)) C 0 3 inBX7 rfl rfl (by decide) fl_X7_40 rfl rfl dX7_undo_42 rfl ?_
          refine x_imul (pc' := 46) (v := (318 * S_22.1 3)) C dX7_undo_45 rfl rfl ?_
          refine x_iload_n (pc' := 47) C dX7_undo_46 rfl rfl rfl ?_
          refine x_iadd (pc' := 48) (v := ((318 * S_22.1 3) + (nI i1_22))) C dX7_undo_47 rfl rfl ?_
          obtain ⟨hn4, hok⟩ := hok
          refine x_iald (pc' := 49) (f := S_22.2 2) (v := ((S_22.2 2) (((318 * S_22.1 3) + (nI i1_22))).toNatClampNeg)) C 3 rfl hn4 rfl dX7_undo_48 rfl ?_
          obtain ⟨z5, ez5⟩ : ∃ z, z = (setF S_22 0 (upd (S_22.2 0) i1_22 ((S_22.2 2) (((318 * S_22.1 3) + (nI i1_22))).toNatClampNeg))) := ⟨_, rfl⟩
          replace hRES := bd hRES z5 ez5
          replace hok := bdP hok z5 ez5
          refine x_iastN (pc' := 50) (f := S_22.2 0) (j := i1_22) (w' := wMo (kg k) h ad z5) C B 1 rfl (by omega) (by decide) dX7_undo_49 rfl (by rw [ez5]; rfl) ?_
          refine x_iinc (pc' := 53) (v := (nI (i1_22 + 1))) (L' := [some (.ref h), some (.int (nI (i1_22 + 1)))]) C dX7_undo_50 rfl rfl (nI_add i1_22 1) (Nat.le_of_ble_eq_true rfl) rfl ?_
          refine x_goto (tgt := 22) C dX7_undo_53 (by decide) ?_
          exact ih22 z5 (i1_22 + 1) (by omega) (by omega) hRES hok
    exact loop22 319 z2 0 (by omega) (by omega) hRES hok
  · rw [if_pos c1] at hRES
    replace hok := hok.1 c1
    refine x_bipush (v := (-5)) (pc' := 9) C dX7_undo_7 rfl (by decide) ?_
    exact x_iret C (Nat.zero_le _) (Nat.zero_le _) dX7_undo_9 ⟨by rw [hRES], by rw [hRES]⟩

def k_X7_keep_27 (S_27 : CS) : Int32 × CS := (bind1 (setI S_27 5 1) (fun z1 => ((f_X7_versions z1 0), z1)))
def ok_X7_keep_27 (S_27 : CS) : Prop := (bind1 (setI S_27 5 1) (fun z1 => ((o_X7_versions z1 0) ∧ True)))
def l_X7_keep_2 : Nat → CS → Nat → Int32 × CS
  | 0, _, _ => (0, dfCS)
  | n2 + 1, S_2, i1_2 => (if i1_2 < 318 then (bind1 (setF S_2 4 (upd (S_2.2 4) i1_2 ((S_2.2 0) i1_2))) (fun z4 => (l_X7_keep_2 n2 z4 (i1_2 + 1)))) else (k_X7_keep_27 S_2))
def ol_X7_keep_2 : Nat → CS → Nat → Prop
  | 0, _, _ => True
  | n2 + 1, S_2, i1_2 => ((i1_2 < 318 → (bind1 (setF S_2 4 (upd (S_2.2 4) i1_2 ((S_2.2 0) i1_2))) (fun z4 => (ol_X7_keep_2 n2 z4 (i1_2 + 1))))) ∧ (¬ (i1_2 < 318) → (ok_X7_keep_27 S_2)))
def f_X7_keep (S : CS) : Int32 × CS := (l_X7_keep_2 319 S 0)
def o_X7_keep (S : CS) : Prop := (ol_X7_keep_2 319 S 0)
set_option maxRecDepth 100000 in
set_option maxHeartbeats 8000000 in
theorem c_X7_keep (l : Launch) (g : GT) (h : Nat) (ad : Nat → Nat) (S : CS) (hok : o_X7_keep S) : CW l yX7_keep (.code yX7_keep cX7_keep 2 (some .int)) 2 g [.ref h] (wMo g h ad S) (some (.int (f_X7_keep S).1)) (wMo g h ad (f_X7_keep S).2) := by
  obtain ⟨RES, hRES⟩ : ∃ z, z = (f_X7_keep S) := ⟨_, rfl⟩
  rw [← hRES]
  unfold f_X7_keep at hRES
  unfold o_X7_keep at hok
  refine CWx.of (nL := 2) (ret := (some .int)) (own := RX7) (cc := cX7_keep) rfl (by decide) rfl (List.forall_mem_cons.mpr ⟨rfl, (fun _ h => absurd h List.not_mem_nil)⟩) (Nat.le_of_ble_eq_true rfl) ?_
  intro k C B hin hkl hkg
  subst hkl; subst hkg
  refine x_loc2 (L' := [some (.ref h), none]) rfl ?_
  refine x_iconst (v := 0) (pc' := 1) C dX7_keep_0 rfl (by decide) ?_
  refine x_istore_n (pc' := 2) (L' := [some (.ref h), some (.int 0)]) C dX7_keep_1 rfl rfl (Nat.le_of_ble_eq_true rfl) rfl ?_
  have cont27 : ∀ (S_27 : CS), RES = k_X7_keep_27 S_27 → ok_X7_keep_27 S_27 → X k 0 0 (wMo (kg k) h ad S_27) 27 [some (.ref h), none] [] := by
    intro S_27 hRES hok
    unfold k_X7_keep_27 at hRES
    unfold ok_X7_keep_27 at hok
    refine x_aload_n (pc' := 28) C dX7_keep_27 rfl rfl rfl ?_
    refine x_iconst (v := 1) (pc' := 29) C dX7_keep_28 rfl (by decide) ?_
    obtain ⟨z1, ez1⟩ : ∃ z, z = (setI S_27 5 1) := ⟨_, rfl⟩
    replace hRES := bd hRES z1 ez1
    replace hok := bdP hok z1 ez1
    refine x_put (pc' := 32) (w' := wMo (kg k) h ad z1) (ty := .boolean) C B 0 5 inBX7 tyX7 tyX7_ok nmX7 rfl rfl (by decide) fl_X7_179 rfl rfl rfl rfl rfl (Nat.le_of_ble_eq_true rfl) dX7_keep_29 rfl (by rw [ez1]; rfl) ?_
    refine x_aload_n (pc' := 33) C dX7_keep_32 rfl rfl rfl ?_
    refine x_iconst (v := 0) (pc' := 34) C dX7_keep_33 rfl (by decide) ?_
    obtain ⟨hn2, hok⟩ := hok
    refine x_RV (st := []) (st2 := [.int (f_X7_versions z1 0)]) (pc' := 37) C (c_X7_versions (kl k) (kg k) h ad z1 0 hn2) cw_X7_81 ok_X7_versions rfl (by decide) 0 rfl rfl [0, 1, 2, 3, 4, 5, 6] rfl rfl rfl (Nat.le_of_ble_eq_true rfl) (Nat.zero_le _) (Nat.zero_le _) rfl dX7_keep_34 rfl rfl ?_
    exact x_iret C (Nat.zero_le _) (Nat.zero_le _) dX7_keep_37 ⟨by rw [hRES], by rw [hRES]⟩
  have loop2 : ∀ (n2 : Nat) (S_2 : CS) (i1_2 : Nat), i1_2 ≤ 318 → 318 < i1_2 + n2 → RES = l_X7_keep_2 n2 S_2 i1_2 → ol_X7_keep_2 n2 S_2 i1_2 → X k 0 0 (wMo (kg k) h ad S_2) 2 [some (.ref h), some (.int (nI i1_2))] [] := by
    intro n2
    induction n2 with
    | zero =>
      intro S_2 i1_2 hb2 hf2 hRES hok
      omega
    | succ n2 ih2 =>
      intro S_2 i1_2 hb2 hf2 hRES hok
      rw [l_X7_keep_2] at hRES
      rw [ol_X7_keep_2] at hok
      refine x_iload_n (pc' := 3) C dX7_keep_2 rfl rfl rfl ?_
      refine x_sipush (v := 318) (pc' := 6) C dX7_keep_3 rfl (by decide) ?_
      refine x_icmpN_ge (tgt := 27) (pc' := 9) C i1_2 318 dX7_keep_6 (by decide) rfl (by omega) (by omega) (fun c3 => ?_) (fun c3 => ?_)
      · rw [if_neg c3] at hRES
        replace hok := hok.2 c3
        refine x_forget (L' := [some (.ref h), none]) [0] rfl rfl ?_
        exact cont27 S_2 hRES hok
      · rw [if_pos c3] at hRES
        replace hok := hok.1 c3
        refine x_aload_n (pc' := 10) C dX7_keep_9 rfl rfl rfl ?_
        refine x_get (pc' := 13) (v := .ref (ad 4)) C 0 4 inBX7 rfl rfl (by decide) fl_X7_19 rfl rfl dX7_keep_10 rfl ?_
        refine x_iload_n (pc' := 14) C dX7_keep_13 rfl rfl rfl ?_
        refine x_aload_n (pc' := 15) C dX7_keep_14 rfl rfl rfl ?_
        refine x_get (pc' := 18) (v := .ref (ad 0)) C 0 0 inBX7 rfl rfl (by decide) fl_X7_7 rfl rfl dX7_keep_15 rfl ?_
        refine x_iload_n (pc' := 19) C dX7_keep_18 rfl rfl rfl ?_
        refine x_ialdN (pc' := 20) (f := S_2.2 0) (j := i1_2) (v := ((S_2.2 0) i1_2)) C 1 rfl (by omega) (by decide) rfl dX7_keep_19 rfl ?_
        obtain ⟨z4, ez4⟩ : ∃ z, z = (setF S_2 4 (upd (S_2.2 4) i1_2 ((S_2.2 0) i1_2))) := ⟨_, rfl⟩
        replace hRES := bd hRES z4 ez4
        replace hok := bdP hok z4 ez4
        refine x_iastN (pc' := 21) (f := S_2.2 4) (j := i1_2) (w' := wMo (kg k) h ad z4) C B 4 rfl (by omega) (by decide) dX7_keep_20 rfl (by rw [ez4]; rfl) ?_
        refine x_iinc (pc' := 24) (v := (nI (i1_2 + 1))) (L' := [some (.ref h), some (.int (nI (i1_2 + 1)))]) C dX7_keep_21 rfl rfl (nI_add i1_2 1) (Nat.le_of_ble_eq_true rfl) rfl ?_
        refine x_goto (tgt := 2) C dX7_keep_24 (by decide) ?_
        exact ih2 z4 (i1_2 + 1) (by omega) (by omega) hRES hok
  exact loop2 319 S 0 (by omega) (by omega) hRES hok

def k_X7_restore_41 (S_41 : CS) : Int32 × CS := (bind1 (f_X7_act S_41 (f_X7_versions S_41 0)) (fun z5 => (z5.1, z5.2)))
def ok_X7_restore_41 (S_41 : CS) : Prop := ((o_X7_versions S_41 0) ∧ ((o_X7_act S_41 (f_X7_versions S_41 0)) ∧ (bind1 (f_X7_act S_41 (f_X7_versions S_41 0)) (fun z5 => True))))
def l_X7_restore_16 : Nat → CS → Nat → Int32 × CS
  | 0, _, _ => (0, dfCS)
  | n16 + 1, S_16, i1_16 => (if i1_16 < 318 then (bind1 (setF S_16 0 (upd (S_16.2 0) i1_16 ((S_16.2 4) i1_16))) (fun z7 => (l_X7_restore_16 n16 z7 (i1_16 + 1)))) else (k_X7_restore_41 S_16))
def ol_X7_restore_16 : Nat → CS → Nat → Prop
  | 0, _, _ => True
  | n16 + 1, S_16, i1_16 => ((i1_16 < 318 → (bind1 (setF S_16 0 (upd (S_16.2 0) i1_16 ((S_16.2 4) i1_16))) (fun z7 => (ol_X7_restore_16 n16 z7 (i1_16 + 1))))) ∧ (¬ (i1_16 < 318) → (ok_X7_restore_41 S_16)))
def f_X7_restore (S : CS) : Int32 × CS := (if S.1 5 = 0 then ((-5), S) else (bind1 (f_X7_putAside S) (fun z2 => (l_X7_restore_16 319 z2 0))))
def o_X7_restore (S : CS) : Prop := ((S.1 5 = 0 → True) ∧ (¬ (S.1 5 = 0) → (bind1 (f_X7_putAside S) (fun z2 => (ol_X7_restore_16 319 z2 0)))))
set_option maxRecDepth 100000 in
set_option maxHeartbeats 8000000 in
theorem c_X7_restore (l : Launch) (g : GT) (h : Nat) (ad : Nat → Nat) (S : CS) (hok : o_X7_restore S) : CW l yX7_restore (.code yX7_restore cX7_restore 2 (some .int)) 2 g [.ref h] (wMo g h ad S) (some (.int (f_X7_restore S).1)) (wMo g h ad (f_X7_restore S).2) := by
  obtain ⟨RES, hRES⟩ : ∃ z, z = (f_X7_restore S) := ⟨_, rfl⟩
  rw [← hRES]
  unfold f_X7_restore at hRES
  unfold o_X7_restore at hok
  refine CWx.of (nL := 2) (ret := (some .int)) (own := RX7) (cc := cX7_restore) rfl (by decide) rfl (List.forall_mem_cons.mpr ⟨rfl, (fun _ h => absurd h List.not_mem_nil)⟩) (Nat.le_of_ble_eq_true rfl) ?_
  intro k C B hin hkl hkg
  subst hkl; subst hkg
  refine x_loc2 (L' := [some (.ref h), none]) rfl ?_
  refine x_aload_n (pc' := 1) C dX7_restore_0 rfl rfl rfl ?_
  refine x_get (pc' := 4) (v := .int (S.1 5)) C 0 5 inBX7 rfl rfl (by decide) fl_X7_179 rfl rfl dX7_restore_1 rfl ?_
  refine x_if_ne (tgt := 10) (pc' := 7) C dX7_restore_4 (by decide) rfl (fun c1 => ?_) (fun c1 => ?_)
  · rw [if_neg c1] at hRES
    replace hok := hok.2 c1
    refine x_aload_n (pc' := 11) C dX7_restore_10 rfl rfl rfl ?_
    obtain ⟨z2, ez2⟩ : ∃ z, z = (f_X7_putAside S) := ⟨_, rfl⟩
    replace hRES := bd hRES z2 ez2
    replace hok := bdP hok z2 ez2
    have hc := c_X7_putAside (kl k) (kg k) h ad S
    rw [← ez2] at hc
    refine x_WV (st := []) (st2 := []) (pc' := 14) C B hc cw_X7_94 ok_X7_putAside rfl (by decide) 0 rfl rfl [0, 1, 2, 3, 4, 5, 6] [] [0, 1, 2, 3, 4, 5, 6] (wMo (kg k) h ad z2) rfl rfl rfl rfl (by decide) rfl rfl rfl (Nat.le_of_ble_eq_true rfl) (Nat.zero_le _) (Nat.zero_le _) rfl dX7_restore_11 rfl rfl ?_
    refine x_iconst (v := 0) (pc' := 15) C dX7_restore_14 rfl (by decide) ?_
    refine x_istore_n (pc' := 16) (L' := [some (.ref h), some (.int 0)]) C dX7_restore_15 rfl rfl (Nat.le_of_ble_eq_true rfl) rfl ?_
    have cont41 : ∀ (S_41 : CS), RES = k_X7_restore_41 S_41 → ok_X7_restore_41 S_41 → X k 0 0 (wMo (kg k) h ad S_41) 41 [some (.ref h), none] [] := by
      intro S_41 hRES hok
      unfold k_X7_restore_41 at hRES
      unfold ok_X7_restore_41 at hok
      refine x_aload_n (pc' := 42) C dX7_restore_41 rfl rfl rfl ?_
      refine x_aload_n (pc' := 43) C dX7_restore_42 rfl rfl rfl ?_
      refine x_iconst (v := 0) (pc' := 44) C dX7_restore_43 rfl (by decide) ?_
      obtain ⟨hn3, hok⟩ := hok
      refine x_RV (st := [.ref h]) (st2 := [.int (f_X7_versions S_41 0), .ref h]) (pc' := 47) C (c_X7_versions (kl k) (kg k) h ad S_41 0 hn3) cw_X7_81 ok_X7_versions rfl (by decide) 0 rfl rfl [0, 1, 2, 3, 4, 5, 6] rfl rfl rfl (Nat.le_of_ble_eq_true rfl) (Nat.zero_le _) (Nat.zero_le _) rfl dX7_restore_44 rfl rfl ?_
      obtain ⟨hn4, hok⟩ := hok
      obtain ⟨z5, ez5⟩ : ∃ z, z = (f_X7_act S_41 (f_X7_versions S_41 0)) := ⟨_, rfl⟩
      replace hRES := bd hRES z5 ez5
      replace hok := bdP hok z5 ez5
      have hc := c_X7_act (kl k) (kg k) h ad S_41 (f_X7_versions S_41 0) hn4
      rw [← ez5] at hc
      refine x_WV (st := []) (st2 := [.int z5.1]) (pc' := 50) C B hc cw_X7_101 ok_X7_act rfl (by decide) 0 rfl rfl [0, 1, 2, 3, 4, 5, 6] [] [0, 1, 2, 3, 4, 5, 6] (wMo (kg k) h ad z5.2) rfl rfl rfl rfl (by decide) rfl rfl rfl (Nat.le_of_ble_eq_true rfl) (Nat.zero_le _) (Nat.zero_le _) rfl dX7_restore_47 rfl rfl ?_
      exact x_iret C (Nat.zero_le _) (Nat.zero_le _) dX7_restore_50 ⟨by rw [hRES], by rw [hRES]⟩
    have loop16 : ∀ (n16 : Nat) (S_16 : CS) (i1_16 : Nat), i1_16 ≤ 318 → 318 < i1_16 + n16 → RES = l_X7_restore_16 n16 S_16 i1_16 → ol_X7_restore_16 n16 S_16 i1_16 → X k 0 0 (wMo (kg k) h ad S_16) 16 [some (.ref h), some (.int (nI i1_16))] [] := by
      intro n16
      induction n16 with
      | zero =>
        intro S_16 i1_16 hb16 hf16 hRES hok
        omega
      | succ n16 ih16 =>
        intro S_16 i1_16 hb16 hf16 hRES hok
        rw [l_X7_restore_16] at hRES
        rw [ol_X7_restore_16] at hok
        refine x_iload_n (pc' := 17) C dX7_restore_16 rfl rfl rfl ?_
        refine x_sipush (v := 318) (pc' := 20) C dX7_restore_17 rfl (by decide) ?_
        refine x_icmpN_ge (tgt := 41) (pc' := 23) C i1_16 318 dX7_restore_20 (by decide) rfl (by omega) (by omega) (fun c6 => ?_) (fun c6 => ?_)
        · rw [if_neg c6] at hRES
          replace hok := hok.2 c6
          refine x_forget (L' := [some (.ref h), none]) [0] rfl rfl ?_
          exact cont41 S_16 hRES hok
        · rw [if_pos c6] at hRES
          replace hok := hok.1 c6
          refine x_aload_n (pc' := 24) C dX7_restore_23 rfl rfl rfl ?_
          refine x_get (pc' := 27) (v := .ref (ad 0)) C 0 0 inBX7 rfl rfl (by decide) fl_X7_7 rfl rfl dX7_restore_24 rfl ?_
          refine x_iload_n (pc' := 28) C dX7_restore_27 rfl rfl rfl ?_
          refine x_aload_n (pc' := 29) C dX7_restore_28 rfl rfl rfl ?_
          refine x_get (pc' := 32) (v := .ref (ad 4)) C 0 4 inBX7 rfl rfl (by decide) fl_X7_19 rfl rfl dX7_restore_29 rfl ?_
          refine x_iload_n (pc' := 33) C dX7_restore_32 rfl rfl rfl ?_
          refine x_ialdN (pc' := 34) (f := S_16.2 4) (j := i1_16) (v := ((S_16.2 4) i1_16)) C 4 rfl (by omega) (by decide) rfl dX7_restore_33 rfl ?_
          obtain ⟨z7, ez7⟩ : ∃ z, z = (setF S_16 0 (upd (S_16.2 0) i1_16 ((S_16.2 4) i1_16))) := ⟨_, rfl⟩
          replace hRES := bd hRES z7 ez7
          replace hok := bdP hok z7 ez7
          refine x_iastN (pc' := 35) (f := S_16.2 0) (j := i1_16) (w' := wMo (kg k) h ad z7) C B 1 rfl (by omega) (by decide) dX7_restore_34 rfl (by rw [ez7]; rfl) ?_
          refine x_iinc (pc' := 38) (v := (nI (i1_16 + 1))) (L' := [some (.ref h), some (.int (nI (i1_16 + 1)))]) C dX7_restore_35 rfl rfl (nI_add i1_16 1) (Nat.le_of_ble_eq_true rfl) rfl ?_
          refine x_goto (tgt := 16) C dX7_restore_38 (by decide) ?_
          exact ih16 z7 (i1_16 + 1) (by omega) (by omega) hRES hok
    exact loop16 319 z2 0 (by omega) (by omega) hRES hok
  · rw [if_pos c1] at hRES
    replace hok := hok.1 c1
    refine x_bipush (v := (-5)) (pc' := 9) C dX7_restore_7 rfl (by decide) ?_
    exact x_iret C (Nat.zero_le _) (Nat.zero_le _) dX7_restore_9 ⟨by rw [hRES], by rw [hRES]⟩

def f_X7_cell (S : CS) (a1 : Int32) (a2 : Int32) : Int32 := (if (f_X7_isVersion S a1) = true then (if (f_X7_in a2 0 7) = true then ((S.2 0) ((f_X7_of a1 (5 + a2))).toNatClampNeg) else (-1)) else (-1))
def o_X7_cell (S : CS) (a1 : Int32) (a2 : Int32) : Prop := ((o_X7_isVersion S a1) ∧ (((f_X7_isVersion S a1) = true → (((f_X7_in a2 0 7) = true → (vp_in (f_X7_of a1 (5 + a2)) 318 ∧ True)) ∧ (¬ (f_X7_in a2 0 7) = true → True))) ∧ (¬ (f_X7_isVersion S a1) = true → True)))
set_option maxRecDepth 100000 in
set_option maxHeartbeats 8000000 in
theorem c_X7_cell (l : Launch) (g : GT) (h : Nat) (ad : Nat → Nat) (S : CS) (a1 : Int32) (a2 : Int32) (hok : o_X7_cell S a1 a2) : CR l yX7_cell (.code yX7_cell cX7_cell 3 (some .int)) 2 g [.ref h, .int a1, .int a2] (wMo g h ad S) (some (.int (f_X7_cell S a1 a2))) := by
  obtain ⟨RES, hRES⟩ : ∃ z, z = (f_X7_cell S a1 a2) := ⟨_, rfl⟩
  rw [← hRES]
  unfold f_X7_cell at hRES
  unfold o_X7_cell at hok
  refine CRx.of (nL := 3) (ret := (some .int)) (own := RX7) (cc := cX7_cell) rfl (by decide) rfl (List.forall_mem_cons.mpr ⟨rfl, (List.forall_mem_cons.mpr ⟨rfl, (List.forall_mem_cons.mpr ⟨rfl, (fun _ h => absurd h List.not_mem_nil)⟩)⟩)⟩) (Nat.le_of_ble_eq_true rfl) ?_
  intro k C hkl hkg
  subst hkl; subst hkg
  refine x_loc2 (L' := [some (.ref h), some (.int a1), some (.int a2)]) rfl ?_
  refine x_aload_n (pc' := 1) C dX7_cell_0 rfl rfl rfl ?_
  refine x_iload_n (pc' := 2) C dX7_cell_1 rfl rfl rfl ?_
  obtain ⟨hn1, hok⟩ := hok
  refine x_RV (st := []) (st2 := [.int (bI (f_X7_isVersion S a1))]) (pc' := 5) C (c_X7_isVersion (kl k) (kg k) h ad S a1 hn1) cw_X7_72 ok_X7_isVersion rfl (by decide) 0 rfl rfl [0, 1, 2, 3, 4, 5, 6] rfl rfl rfl (Nat.le_of_ble_eq_true rfl) (Nat.zero_le _) (Nat.zero_le _) rfl dX7_cell_2 rfl rfl ?_
  refine x_ifB_eq (tgt := 33) (pc' := 8) C dX7_cell_5 (by decide) rfl (fun c2 => ?_) (fun c2 => ?_)
  · rw [if_neg c2] at hRES
    replace hok := hok.2 c2
    refine x_iconst (v := (-1)) (pc' := 34) C dX7_cell_33 rfl (by decide) ?_
    exact x_iret C (Nat.zero_le _) (Nat.zero_le _) dX7_cell_34 (by rw [hRES])
  · rw [if_pos c2] at hRES
    replace hok := hok.1 c2
    refine x_iload_n (pc' := 9) C dX7_cell_8 rfl rfl rfl ?_
    refine x_iconst (v := 0) (pc' := 10) C dX7_cell_9 rfl (by decide) ?_
    refine x_bipush (v := 7) (pc' := 12) C dX7_cell_10 rfl (by decide) ?_
    refine x_RS (st := []) (st2 := [.int (bI (f_X7_in a2 0 7))]) (pc' := 15) C (c_X7_in (kl k) (kg k) a2 0 7) cw_X7_36 ok_X7_in (by decide) [] rfl rfl rfl (Nat.le_of_ble_eq_true rfl) (Nat.zero_le _) (Nat.zero_le _) rfl dX7_cell_12 rfl rfl ?_
    refine x_ifB_eq (tgt := 33) (pc' := 18) C dX7_cell_15 (by decide) rfl (fun c3 => ?_) (fun c3 => ?_)
    · rw [if_neg c3] at hRES
      replace hok := hok.2 c3
      refine x_iconst (v := (-1)) (pc' := 34) C dX7_cell_33 rfl (by decide) ?_
      exact x_iret C (Nat.zero_le _) (Nat.zero_le _) dX7_cell_34 (by rw [hRES])
    · rw [if_pos c3] at hRES
      replace hok := hok.1 c3
      refine x_aload_n (pc' := 19) C dX7_cell_18 rfl rfl rfl ?_
      refine x_get (pc' := 22) (v := .ref (ad 0)) C 0 0 inBX7 rfl rfl (by decide) fl_X7_7 rfl rfl dX7_cell_19 rfl ?_
      refine x_iload_n (pc' := 23) C dX7_cell_22 rfl rfl rfl ?_
      refine x_iconst (v := 5) (pc' := 24) C dX7_cell_23 rfl (by decide) ?_
      refine x_iload_n (pc' := 25) C dX7_cell_24 rfl rfl rfl ?_
      refine x_iadd (pc' := 26) (v := (5 + a2)) C dX7_cell_25 rfl rfl ?_
      refine x_RS (st := [.ref (ad 0)]) (st2 := [.int (f_X7_of a1 (5 + a2)), .ref (ad 0)]) (pc' := 29) C (c_X7_of (kl k) (kg k) a1 (5 + a2)) cw_X7_32 ok_X7_of (by decide) [] rfl rfl rfl (Nat.le_of_ble_eq_true rfl) (Nat.zero_le _) (Nat.zero_le _) rfl dX7_cell_26 rfl rfl ?_
      obtain ⟨hn4, hok⟩ := hok
      refine x_iald (pc' := 30) (f := S.2 0) (v := ((S.2 0) ((f_X7_of a1 (5 + a2))).toNatClampNeg)) C 1 rfl hn4 rfl dX7_cell_29 rfl ?_
      refine x_goto (tgt := 34) C dX7_cell_30 (by decide) ?_
      exact x_iret C (Nat.zero_le _) (Nat.zero_le _) dX7_cell_34 (by rw [hRES])

def f_X7_version (S : CS) (a1 : Int32) (a2 : Int32) : Int32 × CS := (if (f_X7_isVersion S a1) = true then (bind1 (f_X7_layWay S (f_X7_rootOf S a1) a1) (fun z5 => (if a2 = 0 then (((z5.2 0) ((f_X7_of a1 1)).toNatClampNeg), z5) else (if a2 = 1 then (if (f_X7_hangs z5 a1) = true then (1, z5) else (0, z5)) else (if a2 = 2 then (if a1 = 0 then (0, z5) else ((f_X7_cellsUnlike z5 a1 ((z5.2 0) ((f_X7_of a1 1)).toNatClampNeg)), z5)) else (if a2 = 3 then ((f_X7_rootOf z5 a1), z5) else (if a2 = 4 then (z5.1 11, z5) else (if a2 = 5 then (z5.1 12, z5) else (if a2 = 6 then (((z5.2 0) ((f_X7_of a1 4)).toNatClampNeg), z5) else (if a2 = 7 then ((f_X7_madeOf z5 a1), z5) else (if a2 = 8 then ((f_X7_size z5 a1), z5) else (if a2 = 9 then ((1 + z5.1 12), z5) else ((-2), z5))))))))))))) else ((-1), S))
def o_X7_version (S : CS) (a1 : Int32) (a2 : Int32) : Prop := ((o_X7_isVersion S a1) ∧ (((f_X7_isVersion S a1) = true → ((o_X7_rootOf S a1) ∧ ((o_X7_layWay S (f_X7_rootOf S a1) a1) ∧ (bind1 (f_X7_layWay S (f_X7_rootOf S a1) a1) (fun z5 => (vp_in (f_X7_of a1 1) 318 ∧ ((a2 = 0 → True) ∧ (¬ (a2 = 0) → ((a2 = 1 → ((o_X7_hangs z5 a1) ∧ (((f_X7_hangs z5 a1) = true → True) ∧ (¬ (f_X7_hangs z5 a1) = true → True)))) ∧ (¬ (a2 = 1) → ((a2 = 2 → ((a1 = 0 → True) ∧ (¬ (a1 = 0) → ((o_X7_cellsUnlike z5 a1 ((z5.2 0) ((f_X7_of a1 1)).toNatClampNeg)) ∧ True)))) ∧ (¬ (a2 = 2) → ((a2 = 3 → ((o_X7_rootOf z5 a1) ∧ True)) ∧ (¬ (a2 = 3) → ((a2 = 4 → True) ∧ (¬ (a2 = 4) → ((a2 = 5 → True) ∧ (¬ (a2 = 5) → ((a2 = 6 → (vp_in (f_X7_of a1 4) 318 ∧ True)) ∧ (¬ (a2 = 6) → ((a2 = 7 → ((o_X7_madeOf z5 a1) ∧ True)) ∧ (¬ (a2 = 7) → ((a2 = 8 → ((o_X7_size z5 a1) ∧ True)) ∧ (¬ (a2 = 8) → ((a2 = 9 → True) ∧ (¬ (a2 = 9) → True)))))))))))))))))))))))))) ∧ (¬ (f_X7_isVersion S a1) = true → True)))
set_option maxRecDepth 100000 in
set_option maxHeartbeats 8000000 in
theorem c_X7_version (l : Launch) (g : GT) (h : Nat) (ad : Nat → Nat) (S : CS) (a1 : Int32) (a2 : Int32) (hok : o_X7_version S a1 a2) : CW l yX7_version (.code yX7_version cX7_version 4 (some .int)) 4 g [.ref h, .int a1, .int a2] (wMo g h ad S) (some (.int (f_X7_version S a1 a2).1)) (wMo g h ad (f_X7_version S a1 a2).2) := by
  obtain ⟨RES, hRES⟩ : ∃ z, z = (f_X7_version S a1 a2) := ⟨_, rfl⟩
  rw [← hRES]
  unfold f_X7_version at hRES
  unfold o_X7_version at hok
  refine CWx.of (nL := 4) (ret := (some .int)) (own := RX7) (cc := cX7_version) rfl (by decide) rfl (List.forall_mem_cons.mpr ⟨rfl, (List.forall_mem_cons.mpr ⟨rfl, (List.forall_mem_cons.mpr ⟨rfl, (fun _ h => absurd h List.not_mem_nil)⟩)⟩)⟩) (Nat.le_of_ble_eq_true rfl) ?_
  intro k C B hin hkl hkg
  subst hkl; subst hkg
  refine x_loc2 (L' := [some (.ref h), some (.int a1), some (.int a2), none]) rfl ?_
  refine x_aload_n (pc' := 1) C dX7_version_0 rfl rfl rfl ?_
  refine x_iload_n (pc' := 2) C dX7_version_1 rfl rfl rfl ?_
  obtain ⟨hn1, hok⟩ := hok
  refine x_RV (st := []) (st2 := [.int (bI (f_X7_isVersion S a1))]) (pc' := 5) C (c_X7_isVersion (kl k) (kg k) h ad S a1 hn1) cw_X7_72 ok_X7_isVersion rfl (by decide) 0 rfl rfl [0, 1, 2, 3, 4, 5, 6] rfl rfl rfl (Nat.le_of_ble_eq_true rfl) (Nat.zero_le _) (Nat.zero_le _) rfl dX7_version_2 rfl rfl ?_
  refine x_ifB_ne (tgt := 10) (pc' := 8) C dX7_version_5 (by decide) rfl (fun c2 => ?_) (fun c2 => ?_)
  · rw [if_pos c2] at hRES
    replace hok := hok.1 c2
    refine x_aload_n (pc' := 11) C dX7_version_10 rfl rfl rfl ?_
    refine x_aload_n (pc' := 12) C dX7_version_11 rfl rfl rfl ?_
    refine x_iload_n (pc' := 13) C dX7_version_12 rfl rfl rfl ?_
    obtain ⟨hn3, hok⟩ := hok
    refine x_RV (st := [.ref h]) (st2 := [.int (f_X7_rootOf S a1), .ref h]) (pc' := 16) C (c_X7_rootOf (kl k) (kg k) h ad S a1 hn3) cw_X7_84 ok_X7_rootOf rfl (by decide) 0 rfl rfl [0, 1, 2, 3, 4, 5, 6] rfl rfl rfl (Nat.le_of_ble_eq_true rfl) (Nat.zero_le _) (Nat.zero_le _) rfl dX7_version_13 rfl rfl ?_
    refine x_iload_n (pc' := 17) C dX7_version_16 rfl rfl rfl ?_
    obtain ⟨hn4, hok⟩ := hok
    obtain ⟨z5, ez5⟩ : ∃ z, z = (f_X7_layWay S (f_X7_rootOf S a1) a1) := ⟨_, rfl⟩
    replace hRES := bd hRES z5 ez5
    replace hok := bdP hok z5 ez5
    have hc := c_X7_layWay (kl k) (kg k) h ad S (f_X7_rootOf S a1) a1 hn4
    rw [← ez5] at hc
    refine x_WV (st := []) (st2 := []) (pc' := 20) C B hc cw_X7_64 ok_X7_layWay rfl (by decide) 0 rfl rfl [0, 1, 2, 3, 4, 5, 6] [] [0, 1, 2, 3, 4, 5, 6] (wMo (kg k) h ad z5) rfl rfl rfl rfl (by decide) rfl rfl rfl (Nat.le_of_ble_eq_true rfl) (Nat.zero_le _) (Nat.zero_le _) rfl dX7_version_17 rfl rfl ?_
    refine x_aload_n (pc' := 21) C dX7_version_20 rfl rfl rfl ?_
    refine x_get (pc' := 24) (v := .ref (ad 0)) C 0 0 inBX7 rfl rfl (by decide) fl_X7_7 rfl rfl dX7_version_21 rfl ?_
    refine x_iload_n (pc' := 25) C dX7_version_24 rfl rfl rfl ?_
    refine x_iconst (v := 1) (pc' := 26) C dX7_version_25 rfl (by decide) ?_
    refine x_RS (st := [.ref (ad 0)]) (st2 := [.int (f_X7_of a1 1), .ref (ad 0)]) (pc' := 29) C (c_X7_of (kl k) (kg k) a1 1) cw_X7_32 ok_X7_of (by decide) [] rfl rfl rfl (Nat.le_of_ble_eq_true rfl) (Nat.zero_le _) (Nat.zero_le _) rfl dX7_version_26 rfl rfl ?_
    obtain ⟨hn6, hok⟩ := hok
    refine x_iald (pc' := 30) (f := z5.2 0) (v := ((z5.2 0) ((f_X7_of a1 1)).toNatClampNeg)) C 1 rfl hn6 rfl dX7_version_29 rfl ?_
    refine x_istore_n (pc' := 31) (L' := [some (.ref h), some (.int a1), some (.int a2), some (.int ((z5.2 0) ((f_X7_of a1 1)).toNatClampNeg))]) C dX7_version_30 rfl rfl (Nat.le_of_ble_eq_true rfl) rfl ?_
    refine x_iload_n (pc' := 32) C dX7_version_31 rfl rfl rfl ?_
    by_cases c7 : a2 = 0
    · rw [if_pos c7] at hRES
      replace hok := hok.1 c7
      refine x_tabIn (off := 56) (tgt := 88) C (0) dX7_version_32 (by rw [c7]; decide) (by decide) (by decide) rfl (by decide) ?_
      refine x_iload_n (pc' := 89) C dX7_version_88 rfl rfl rfl ?_
      exact x_iret C (Nat.zero_le _) (Nat.zero_le _) dX7_version_89 ⟨by rw [hRES], by rw [hRES]⟩
    · rw [if_neg c7] at hRES
      replace hok := hok.2 c7
      by_cases c8 : a2 = 1
      · rw [if_pos c8] at hRES
        replace hok := hok.1 c8
        refine x_tabIn (off := 58) (tgt := 90) C (1) dX7_version_32 (by rw [c8]; decide) (by decide) (by decide) rfl (by decide) ?_
        refine x_aload_n (pc' := 91) C dX7_version_90 rfl rfl rfl ?_
        refine x_iload_n (pc' := 92) C dX7_version_91 rfl rfl rfl ?_
        obtain ⟨hn9, hok⟩ := hok
        refine x_RV (st := []) (st2 := [.int (bI (f_X7_hangs z5 a1))]) (pc' := 95) C (c_X7_hangs (kl k) (kg k) h ad z5 a1 hn9) cw_X7_43 ok_X7_hangs rfl (by decide) 0 rfl rfl [0, 1, 2, 3, 4, 5, 6] rfl rfl rfl (Nat.le_of_ble_eq_true rfl) (Nat.zero_le _) (Nat.zero_le _) rfl dX7_version_92 rfl rfl ?_
        refine x_ifB_eq (tgt := 102) (pc' := 98) C dX7_version_95 (by decide) rfl (fun c10 => ?_) (fun c10 => ?_)
        · rw [if_neg c10] at hRES
          replace hok := hok.2 c10
          refine x_iconst (v := 0) (pc' := 103) C dX7_version_102 rfl (by decide) ?_
          exact x_iret C (Nat.zero_le _) (Nat.zero_le _) dX7_version_103 ⟨by rw [hRES], by rw [hRES]⟩
        · rw [if_pos c10] at hRES
          replace hok := hok.1 c10
          refine x_iconst (v := 1) (pc' := 99) C dX7_version_98 rfl (by decide) ?_
          refine x_goto (tgt := 103) C dX7_version_99 (by decide) ?_
          exact x_iret C (Nat.zero_le _) (Nat.zero_le _) dX7_version_103 ⟨by rw [hRES], by rw [hRES]⟩
      · rw [if_neg c8] at hRES
        replace hok := hok.2 c8
        by_cases c11 : a2 = 2
        · rw [if_pos c11] at hRES
          replace hok := hok.1 c11
          refine x_tabIn (off := 72) (tgt := 104) C (2) dX7_version_32 (by rw [c11]; decide) (by decide) (by decide) rfl (by decide) ?_
          refine x_iload_n (pc' := 105) C dX7_version_104 rfl rfl rfl ?_
          refine x_if_ne (tgt := 112) (pc' := 108) C dX7_version_105 (by decide) rfl (fun c12 => ?_) (fun c12 => ?_)
          · rw [if_neg c12] at hRES
            replace hok := hok.2 c12
            refine x_aload_n (pc' := 113) C dX7_version_112 rfl rfl rfl ?_
            refine x_iload_n (pc' := 114) C dX7_version_113 rfl rfl rfl ?_
            refine x_iload_n (pc' := 115) C dX7_version_114 rfl rfl rfl ?_
            obtain ⟨hn13, hok⟩ := hok
            refine x_RV (st := []) (st2 := [.int (f_X7_cellsUnlike z5 a1 ((z5.2 0) ((f_X7_of a1 1)).toNatClampNeg))]) (pc' := 118) C (c_X7_cellsUnlike (kl k) (kg k) h ad z5 a1 ((z5.2 0) ((f_X7_of a1 1)).toNatClampNeg) hn13) cw_X7_182 ok_X7_cellsUnlike rfl (by decide) 0 rfl rfl [0, 1, 2, 3, 4, 5, 6] rfl rfl rfl (Nat.le_of_ble_eq_true rfl) (Nat.zero_le _) (Nat.zero_le _) rfl dX7_version_115 rfl rfl ?_
            exact x_iret C (Nat.zero_le _) (Nat.zero_le _) dX7_version_118 ⟨by rw [hRES], by rw [hRES]⟩
          · rw [if_pos c12] at hRES
            replace hok := hok.1 c12
            refine x_iconst (v := 0) (pc' := 109) C dX7_version_108 rfl (by decide) ?_
            refine x_goto (tgt := 118) C dX7_version_109 (by decide) ?_
            exact x_iret C (Nat.zero_le _) (Nat.zero_le _) dX7_version_118 ⟨by rw [hRES], by rw [hRES]⟩
        · rw [if_neg c11] at hRES
          replace hok := hok.2 c11
          by_cases c14 : a2 = 3
          · rw [if_pos c14] at hRES
            replace hok := hok.1 c14
            refine x_tabIn (off := 87) (tgt := 119) C (3) dX7_version_32 (by rw [c14]; decide) (by decide) (by decide) rfl (by decide) ?_
            refine x_aload_n (pc' := 120) C dX7_version_119 rfl rfl rfl ?_
            refine x_iload_n (pc' := 121) C dX7_version_120 rfl rfl rfl ?_
            obtain ⟨hn15, hok⟩ := hok
            refine x_RV (st := []) (st2 := [.int (f_X7_rootOf z5 a1)]) (pc' := 124) C (c_X7_rootOf (kl k) (kg k) h ad z5 a1 hn15) cw_X7_84 ok_X7_rootOf rfl (by decide) 0 rfl rfl [0, 1, 2, 3, 4, 5, 6] rfl rfl rfl (Nat.le_of_ble_eq_true rfl) (Nat.zero_le _) (Nat.zero_le _) rfl dX7_version_121 rfl rfl ?_
            exact x_iret C (Nat.zero_le _) (Nat.zero_le _) dX7_version_124 ⟨by rw [hRES], by rw [hRES]⟩
          · rw [if_neg c14] at hRES
            replace hok := hok.2 c14
            by_cases c16 : a2 = 4
            · rw [if_pos c16] at hRES
              replace hok := hok.1 c16
              refine x_tabIn (off := 93) (tgt := 125) C (4) dX7_version_32 (by rw [c16]; decide) (by decide) (by decide) rfl (by decide) ?_
              refine x_aload_n (pc' := 126) C dX7_version_125 rfl rfl rfl ?_
              refine x_get (pc' := 129) (v := .int (z5.1 11)) C 0 11 inBX7 rfl rfl (by decide) fl_X7_51 rfl rfl dX7_version_126 rfl ?_
              exact x_iret C (Nat.zero_le _) (Nat.zero_le _) dX7_version_129 ⟨by rw [hRES], by rw [hRES]⟩
            · rw [if_neg c16] at hRES
              replace hok := hok.2 c16
              by_cases c17 : a2 = 5
              · rw [if_pos c17] at hRES
                replace hok := hok.1 c17
                refine x_tabIn (off := 98) (tgt := 130) C (5) dX7_version_32 (by rw [c17]; decide) (by decide) (by decide) rfl (by decide) ?_
                refine x_aload_n (pc' := 131) C dX7_version_130 rfl rfl rfl ?_
                refine x_get (pc' := 134) (v := .int (z5.1 12)) C 0 12 inBX7 rfl rfl (by decide) fl_X7_58 rfl rfl dX7_version_131 rfl ?_
                exact x_iret C (Nat.zero_le _) (Nat.zero_le _) dX7_version_134 ⟨by rw [hRES], by rw [hRES]⟩
              · rw [if_neg c17] at hRES
                replace hok := hok.2 c17
                by_cases c18 : a2 = 6
                · rw [if_pos c18] at hRES
                  replace hok := hok.1 c18
                  refine x_tabIn (off := 103) (tgt := 135) C (6) dX7_version_32 (by rw [c18]; decide) (by decide) (by decide) rfl (by decide) ?_
                  refine x_aload_n (pc' := 136) C dX7_version_135 rfl rfl rfl ?_
                  refine x_get (pc' := 139) (v := .ref (ad 0)) C 0 0 inBX7 rfl rfl (by decide) fl_X7_7 rfl rfl dX7_version_136 rfl ?_
                  refine x_iload_n (pc' := 140) C dX7_version_139 rfl rfl rfl ?_
                  refine x_iconst (v := 4) (pc' := 141) C dX7_version_140 rfl (by decide) ?_
                  refine x_RS (st := [.ref (ad 0)]) (st2 := [.int (f_X7_of a1 4), .ref (ad 0)]) (pc' := 144) C (c_X7_of (kl k) (kg k) a1 4) cw_X7_32 ok_X7_of (by decide) [] rfl rfl rfl (Nat.le_of_ble_eq_true rfl) (Nat.zero_le _) (Nat.zero_le _) rfl dX7_version_141 rfl rfl ?_
                  obtain ⟨hn19, hok⟩ := hok
                  refine x_iald (pc' := 145) (f := z5.2 0) (v := ((z5.2 0) ((f_X7_of a1 4)).toNatClampNeg)) C 1 rfl hn19 rfl dX7_version_144 rfl ?_
                  exact x_iret C (Nat.zero_le _) (Nat.zero_le _) dX7_version_145 ⟨by rw [hRES], by rw [hRES]⟩
                · rw [if_neg c18] at hRES
                  replace hok := hok.2 c18
                  by_cases c20 : a2 = 7
                  · rw [if_pos c20] at hRES
                    replace hok := hok.1 c20
                    refine x_tabIn (off := 114) (tgt := 146) C (7) dX7_version_32 (by rw [c20]; decide) (by decide) (by decide) rfl (by decide) ?_
                    refine x_aload_n (pc' := 147) C dX7_version_146 rfl rfl rfl ?_
                    refine x_iload_n (pc' := 148) C dX7_version_147 rfl rfl rfl ?_
                    obtain ⟨hn21, hok⟩ := hok
                    refine x_RV (st := []) (st2 := [.int (f_X7_madeOf z5 a1)]) (pc' := 151) C (c_X7_madeOf (kl k) (kg k) h ad z5 a1 hn21) cw_X7_78 ok_X7_madeOf rfl (by decide) 0 rfl rfl [0, 1, 2, 3, 4, 5, 6] rfl rfl rfl (Nat.le_of_ble_eq_true rfl) (Nat.zero_le _) (Nat.zero_le _) rfl dX7_version_148 rfl rfl ?_
                    exact x_iret C (Nat.zero_le _) (Nat.zero_le _) dX7_version_151 ⟨by rw [hRES], by rw [hRES]⟩
                  · rw [if_neg c20] at hRES
                    replace hok := hok.2 c20
                    by_cases c22 : a2 = 8
                    · rw [if_pos c22] at hRES
                      replace hok := hok.1 c22
                      refine x_tabIn (off := 120) (tgt := 152) C (8) dX7_version_32 (by rw [c22]; decide) (by decide) (by decide) rfl (by decide) ?_
                      refine x_aload_n (pc' := 153) C dX7_version_152 rfl rfl rfl ?_
                      refine x_iload_n (pc' := 154) C dX7_version_153 rfl rfl rfl ?_
                      obtain ⟨hn23, hok⟩ := hok
                      refine x_RV (st := []) (st2 := [.int (f_X7_size z5 a1)]) (pc' := 157) C (c_X7_size (kl k) (kg k) h ad z5 a1 hn23) cw_X7_185 ok_X7_size rfl (by decide) 0 rfl rfl [0, 1, 2, 3, 4, 5, 6] rfl rfl rfl (Nat.le_of_ble_eq_true rfl) (Nat.zero_le _) (Nat.zero_le _) rfl dX7_version_154 rfl rfl ?_
                      exact x_iret C (Nat.zero_le _) (Nat.zero_le _) dX7_version_157 ⟨by rw [hRES], by rw [hRES]⟩
                    · rw [if_neg c22] at hRES
                      replace hok := hok.2 c22
                      by_cases c24 : a2 = 9
                      · rw [if_pos c24] at hRES
                        replace hok := hok.1 c24
                        refine x_tabIn (off := 126) (tgt := 158) C (9) dX7_version_32 (by rw [c24]; decide) (by decide) (by decide) rfl (by decide) ?_
                        refine x_iconst (v := 1) (pc' := 159) C dX7_version_158 rfl (by decide) ?_
                        refine x_aload_n (pc' := 160) C dX7_version_159 rfl rfl rfl ?_
                        refine x_get (pc' := 163) (v := .int (z5.1 12)) C 0 12 inBX7 rfl rfl (by decide) fl_X7_58 rfl rfl dX7_version_160 rfl ?_
                        refine x_iadd (pc' := 164) (v := (1 + z5.1 12)) C dX7_version_163 rfl rfl ?_
                        exact x_iret C (Nat.zero_le _) (Nat.zero_le _) dX7_version_164 ⟨by rw [hRES], by rw [hRES]⟩
                      · rw [if_neg c24] at hRES
                        replace hok := hok.2 c24
                        refine x_tabOut (tgt := 165) C dX7_version_32 (by have hc7 := lv_neT (a := 0) c7 (by decide); have hc8 := lv_neT (a := 1) c8 (by decide); have hc11 := lv_neT (a := 2) c11 (by decide); have hc14 := lv_neT (a := 3) c14 (by decide); have hc16 := lv_neT (a := 4) c16 (by decide); have hc17 := lv_neT (a := 5) c17 (by decide); have hc18 := lv_neT (a := 6) c18 (by decide); have hc20 := lv_neT (a := 7) c20 (by decide); have hc22 := lv_neT (a := 8) c22 (by decide); have hc24 := lv_neT (a := 9) c24 (by decide); omega) (by decide) ?_
                        refine x_bipush (v := (-2)) (pc' := 167) C dX7_version_165 rfl (by decide) ?_
                        exact x_iret C (Nat.zero_le _) (Nat.zero_le _) dX7_version_167 ⟨by rw [hRES], by rw [hRES]⟩
  · rw [if_neg c2] at hRES
    replace hok := hok.2 c2
    refine x_iconst (v := (-1)) (pc' := 9) C dX7_version_8 rfl (by decide) ?_
    exact x_iret C (Nat.zero_le _) (Nat.zero_le _) dX7_version_9 ⟨by rw [hRES], by rw [hRES]⟩

def f_X7_way (S : CS) (a1 : Int32) (a2 : Int32) : Int32 × CS := (if (f_X7_isVersion S a1) = true then (if a2 < 0 then ((-2), S) else (bind1 (f_X7_layWay S (f_X7_rootOf S a1) a1) (fun z6 => (if z6.1 11 < a2 then ((-5), z6) else (((z6.2 10) (a2).toNatClampNeg), z6))))) else ((-1), S))
def o_X7_way (S : CS) (a1 : Int32) (a2 : Int32) : Prop := ((o_X7_isVersion S a1) ∧ (((f_X7_isVersion S a1) = true → ((a2 < 0 → True) ∧ (¬ (a2 < 0) → ((o_X7_rootOf S a1) ∧ ((o_X7_layWay S (f_X7_rootOf S a1) a1) ∧ (bind1 (f_X7_layWay S (f_X7_rootOf S a1) a1) (fun z6 => ((z6.1 11 < a2 → True) ∧ (¬ (z6.1 11 < a2) → (vp_in a2 24 ∧ True)))))))))) ∧ (¬ (f_X7_isVersion S a1) = true → True)))
set_option maxRecDepth 100000 in
set_option maxHeartbeats 8000000 in
theorem c_X7_way (l : Launch) (g : GT) (h : Nat) (ad : Nat → Nat) (S : CS) (a1 : Int32) (a2 : Int32) (hok : o_X7_way S a1 a2) : CW l yX7_way (.code yX7_way cX7_way 3 (some .int)) 4 g [.ref h, .int a1, .int a2] (wMo g h ad S) (some (.int (f_X7_way S a1 a2).1)) (wMo g h ad (f_X7_way S a1 a2).2) := by
  obtain ⟨RES, hRES⟩ : ∃ z, z = (f_X7_way S a1 a2) := ⟨_, rfl⟩
  rw [← hRES]
  unfold f_X7_way at hRES
  unfold o_X7_way at hok
  refine CWx.of (nL := 3) (ret := (some .int)) (own := RX7) (cc := cX7_way) rfl (by decide) rfl (List.forall_mem_cons.mpr ⟨rfl, (List.forall_mem_cons.mpr ⟨rfl, (List.forall_mem_cons.mpr ⟨rfl, (fun _ h => absurd h List.not_mem_nil)⟩)⟩)⟩) (Nat.le_of_ble_eq_true rfl) ?_
  intro k C B hin hkl hkg
  subst hkl; subst hkg
  refine x_loc2 (L' := [some (.ref h), some (.int a1), some (.int a2)]) rfl ?_
  refine x_aload_n (pc' := 1) C dX7_way_0 rfl rfl rfl ?_
  refine x_iload_n (pc' := 2) C dX7_way_1 rfl rfl rfl ?_
  obtain ⟨hn1, hok⟩ := hok
  refine x_RV (st := []) (st2 := [.int (bI (f_X7_isVersion S a1))]) (pc' := 5) C (c_X7_isVersion (kl k) (kg k) h ad S a1 hn1) cw_X7_72 ok_X7_isVersion rfl (by decide) 0 rfl rfl [0, 1, 2, 3, 4, 5, 6] rfl rfl rfl (Nat.le_of_ble_eq_true rfl) (Nat.zero_le _) (Nat.zero_le _) rfl dX7_way_2 rfl rfl ?_
  refine x_ifB_ne (tgt := 10) (pc' := 8) C dX7_way_5 (by decide) rfl (fun c2 => ?_) (fun c2 => ?_)
  · rw [if_pos c2] at hRES
    replace hok := hok.1 c2
    refine x_iload_n (pc' := 11) C dX7_way_10 rfl rfl rfl ?_
    refine x_if_ge (tgt := 17) (pc' := 14) C dX7_way_11 (by decide) rfl (fun c3 => ?_) (fun c3 => ?_)
    · rw [if_neg c3] at hRES
      replace hok := hok.2 c3
      refine x_aload_n (pc' := 18) C dX7_way_17 rfl rfl rfl ?_
      refine x_aload_n (pc' := 19) C dX7_way_18 rfl rfl rfl ?_
      refine x_iload_n (pc' := 20) C dX7_way_19 rfl rfl rfl ?_
      obtain ⟨hn4, hok⟩ := hok
      refine x_RV (st := [.ref h]) (st2 := [.int (f_X7_rootOf S a1), .ref h]) (pc' := 23) C (c_X7_rootOf (kl k) (kg k) h ad S a1 hn4) cw_X7_84 ok_X7_rootOf rfl (by decide) 0 rfl rfl [0, 1, 2, 3, 4, 5, 6] rfl rfl rfl (Nat.le_of_ble_eq_true rfl) (Nat.zero_le _) (Nat.zero_le _) rfl dX7_way_20 rfl rfl ?_
      refine x_iload_n (pc' := 24) C dX7_way_23 rfl rfl rfl ?_
      obtain ⟨hn5, hok⟩ := hok
      obtain ⟨z6, ez6⟩ : ∃ z, z = (f_X7_layWay S (f_X7_rootOf S a1) a1) := ⟨_, rfl⟩
      replace hRES := bd hRES z6 ez6
      replace hok := bdP hok z6 ez6
      have hc := c_X7_layWay (kl k) (kg k) h ad S (f_X7_rootOf S a1) a1 hn5
      rw [← ez6] at hc
      refine x_WV (st := []) (st2 := []) (pc' := 27) C B hc cw_X7_64 ok_X7_layWay rfl (by decide) 0 rfl rfl [0, 1, 2, 3, 4, 5, 6] [] [0, 1, 2, 3, 4, 5, 6] (wMo (kg k) h ad z6) rfl rfl rfl rfl (by decide) rfl rfl rfl (Nat.le_of_ble_eq_true rfl) (Nat.zero_le _) (Nat.zero_le _) rfl dX7_way_24 rfl rfl ?_
      refine x_iload_n (pc' := 28) C dX7_way_27 rfl rfl rfl ?_
      refine x_aload_n (pc' := 29) C dX7_way_28 rfl rfl rfl ?_
      refine x_get (pc' := 32) (v := .int (z6.1 11)) C 0 11 inBX7 rfl rfl (by decide) fl_X7_51 rfl rfl dX7_way_29 rfl ?_
      refine x_icmp_le (tgt := 40) (pc' := 35) C dX7_way_32 (by decide) rfl (fun c7 => ?_) (fun c7 => ?_)
      · rw [if_neg c7] at hRES
        replace hok := hok.2 c7
        refine x_aload_n (pc' := 41) C dX7_way_40 rfl rfl rfl ?_
        refine x_get (pc' := 44) (v := .ref (ad 10)) C 0 10 inBX7 rfl rfl (by decide) fl_X7_29 rfl rfl dX7_way_41 rfl ?_
        refine x_iload_n (pc' := 45) C dX7_way_44 rfl rfl rfl ?_
        obtain ⟨hn8, hok⟩ := hok
        refine x_iald (pc' := 46) (f := z6.2 10) (v := ((z6.2 10) (a2).toNatClampNeg)) C 6 rfl hn8 rfl dX7_way_45 rfl ?_
        exact x_iret C (Nat.zero_le _) (Nat.zero_le _) dX7_way_46 ⟨by rw [hRES], by rw [hRES]⟩
      · rw [if_pos c7] at hRES
        replace hok := hok.1 c7
        refine x_bipush (v := (-5)) (pc' := 37) C dX7_way_35 rfl (by decide) ?_
        refine x_goto (tgt := 46) C dX7_way_37 (by decide) ?_
        exact x_iret C (Nat.zero_le _) (Nat.zero_le _) dX7_way_46 ⟨by rw [hRES], by rw [hRES]⟩
    · rw [if_pos c3] at hRES
      replace hok := hok.1 c3
      refine x_bipush (v := (-2)) (pc' := 16) C dX7_way_14 rfl (by decide) ?_
      exact x_iret C (Nat.zero_le _) (Nat.zero_le _) dX7_way_16 ⟨by rw [hRES], by rw [hRES]⟩
  · rw [if_neg c2] at hRES
    replace hok := hok.2 c2
    refine x_iconst (v := (-1)) (pc' := 9) C dX7_way_8 rfl (by decide) ?_
    exact x_iret C (Nat.zero_le _) (Nat.zero_le _) dX7_way_9 ⟨by rw [hRES], by rw [hRES]⟩

def f_X7_unlike (S : CS) (a1 : Int32) (a2 : Int32) : Int32 := (if (f_X7_isVersion S a1) = true then (if (f_X7_isVersion S a2) = true then (f_X7_unlikeCells S a1 a2) else (-1)) else (-1))
def o_X7_unlike (S : CS) (a1 : Int32) (a2 : Int32) : Prop := ((o_X7_isVersion S a1) ∧ (((f_X7_isVersion S a1) = true → ((o_X7_isVersion S a2) ∧ (((f_X7_isVersion S a2) = true → ((o_X7_unlikeCells S a1 a2) ∧ True)) ∧ (¬ (f_X7_isVersion S a2) = true → True)))) ∧ (¬ (f_X7_isVersion S a1) = true → True)))
set_option maxRecDepth 100000 in
set_option maxHeartbeats 8000000 in
theorem c_X7_unlike (l : Launch) (g : GT) (h : Nat) (ad : Nat → Nat) (S : CS) (a1 : Int32) (a2 : Int32) (hok : o_X7_unlike S a1 a2) : CR l yX7_unlike (.code yX7_unlike cX7_unlike 3 (some .int)) 2 g [.ref h, .int a1, .int a2] (wMo g h ad S) (some (.int (f_X7_unlike S a1 a2))) := by
  obtain ⟨RES, hRES⟩ : ∃ z, z = (f_X7_unlike S a1 a2) := ⟨_, rfl⟩
  rw [← hRES]
  unfold f_X7_unlike at hRES
  unfold o_X7_unlike at hok
  refine CRx.of (nL := 3) (ret := (some .int)) (own := RX7) (cc := cX7_unlike) rfl (by decide) rfl (List.forall_mem_cons.mpr ⟨rfl, (List.forall_mem_cons.mpr ⟨rfl, (List.forall_mem_cons.mpr ⟨rfl, (fun _ h => absurd h List.not_mem_nil)⟩)⟩)⟩) (Nat.le_of_ble_eq_true rfl) ?_
  intro k C hkl hkg
  subst hkl; subst hkg
  refine x_loc2 (L' := [some (.ref h), some (.int a1), some (.int a2)]) rfl ?_
  refine x_aload_n (pc' := 1) C dX7_unlike_0 rfl rfl rfl ?_
  refine x_iload_n (pc' := 2) C dX7_unlike_1 rfl rfl rfl ?_
  obtain ⟨hn1, hok⟩ := hok
  refine x_RV (st := []) (st2 := [.int (bI (f_X7_isVersion S a1))]) (pc' := 5) C (c_X7_isVersion (kl k) (kg k) h ad S a1 hn1) cw_X7_72 ok_X7_isVersion rfl (by decide) 0 rfl rfl [0, 1, 2, 3, 4, 5, 6] rfl rfl rfl (Nat.le_of_ble_eq_true rfl) (Nat.zero_le _) (Nat.zero_le _) rfl dX7_unlike_2 rfl rfl ?_
  refine x_ifB_eq (tgt := 25) (pc' := 8) C dX7_unlike_5 (by decide) rfl (fun c2 => ?_) (fun c2 => ?_)
  · rw [if_neg c2] at hRES
    replace hok := hok.2 c2
    refine x_iconst (v := (-1)) (pc' := 26) C dX7_unlike_25 rfl (by decide) ?_
    exact x_iret C (Nat.zero_le _) (Nat.zero_le _) dX7_unlike_26 (by rw [hRES])
  · rw [if_pos c2] at hRES
    replace hok := hok.1 c2
    refine x_aload_n (pc' := 9) C dX7_unlike_8 rfl rfl rfl ?_
    refine x_iload_n (pc' := 10) C dX7_unlike_9 rfl rfl rfl ?_
    obtain ⟨hn3, hok⟩ := hok
    refine x_RV (st := []) (st2 := [.int (bI (f_X7_isVersion S a2))]) (pc' := 13) C (c_X7_isVersion (kl k) (kg k) h ad S a2 hn3) cw_X7_72 ok_X7_isVersion rfl (by decide) 0 rfl rfl [0, 1, 2, 3, 4, 5, 6] rfl rfl rfl (Nat.le_of_ble_eq_true rfl) (Nat.zero_le _) (Nat.zero_le _) rfl dX7_unlike_10 rfl rfl ?_
    refine x_ifB_eq (tgt := 25) (pc' := 16) C dX7_unlike_13 (by decide) rfl (fun c4 => ?_) (fun c4 => ?_)
    · rw [if_neg c4] at hRES
      replace hok := hok.2 c4
      refine x_iconst (v := (-1)) (pc' := 26) C dX7_unlike_25 rfl (by decide) ?_
      exact x_iret C (Nat.zero_le _) (Nat.zero_le _) dX7_unlike_26 (by rw [hRES])
    · rw [if_pos c4] at hRES
      replace hok := hok.1 c4
      refine x_aload_n (pc' := 17) C dX7_unlike_16 rfl rfl rfl ?_
      refine x_iload_n (pc' := 18) C dX7_unlike_17 rfl rfl rfl ?_
      refine x_iload_n (pc' := 19) C dX7_unlike_18 rfl rfl rfl ?_
      obtain ⟨hn5, hok⟩ := hok
      refine x_RV (st := []) (st2 := [.int (f_X7_unlikeCells S a1 a2)]) (pc' := 22) C (c_X7_unlikeCells (kl k) (kg k) h ad S a1 a2 hn5) cw_X7_61 ok_X7_unlikeCells rfl (by decide) 0 rfl rfl [0, 1, 2, 3, 4, 5, 6] rfl rfl rfl (Nat.le_of_ble_eq_true rfl) (Nat.zero_le _) (Nat.zero_le _) rfl dX7_unlike_19 rfl rfl ?_
      refine x_goto (tgt := 26) C dX7_unlike_22 (by decide) ?_
      exact x_iret C (Nat.zero_le _) (Nat.zero_le _) dX7_unlike_26 (by rw [hRES])

def k_X7_isAhead_25 (a1 : Int32) (x3_25 : Int32) : Bool := (if x3_25 = a1 then true else false)
def ok_X7_isAhead_25 (a1 : Int32) (x3_25 : Int32) : Prop := ((x3_25 = a1 → True) ∧ (¬ (x3_25 = a1) → True))
def l_X7_isAhead_2 (S : CS) (a1 : Int32) : Nat → Int32 → Bool
  | 0, _ => false
  | n2 + 1, x3_2 => (if x3_2 = a1 then (k_X7_isAhead_25 a1 x3_2) else (if 0 < x3_2 then (l_X7_isAhead_2 S a1 n2 ((S.2 0) ((f_X7_of x3_2 1)).toNatClampNeg)) else (k_X7_isAhead_25 a1 x3_2)))
def ol_X7_isAhead_2 (S : CS) (a1 : Int32) : Nat → Int32 → Prop
  | 0, _ => False
  | n2 + 1, x3_2 => ((x3_2 = a1 → (ok_X7_isAhead_25 a1 x3_2)) ∧ (¬ (x3_2 = a1) → ((0 < x3_2 → (vp_in (f_X7_of x3_2 1) 318 ∧ (ol_X7_isAhead_2 S a1 n2 ((S.2 0) ((f_X7_of x3_2 1)).toNatClampNeg)))) ∧ (¬ (0 < x3_2) → (ok_X7_isAhead_25 a1 x3_2)))))
def f_X7_isAhead (S : CS) (a1 : Int32) (a2 : Int32) : Bool := (l_X7_isAhead_2 S a1 25 a2)
def o_X7_isAhead (S : CS) (a1 : Int32) (a2 : Int32) : Prop := (ol_X7_isAhead_2 S a1 25 a2)
set_option maxRecDepth 100000 in
set_option maxHeartbeats 8000000 in
theorem c_X7_isAhead (l : Launch) (g : GT) (h : Nat) (ad : Nat → Nat) (S : CS) (a1 : Int32) (a2 : Int32) (hok : o_X7_isAhead S a1 a2) : CR l yX7_isAhead (.code yX7_isAhead cX7_isAhead 4 (some .boolean)) 1 g [.ref h, .int a1, .int a2] (wMo g h ad S) (some (.int (bI (f_X7_isAhead S a1 a2)))) := by
  obtain ⟨RES, hRES⟩ : ∃ z, z = (f_X7_isAhead S a1 a2) := ⟨_, rfl⟩
  rw [← hRES]
  unfold f_X7_isAhead at hRES
  unfold o_X7_isAhead at hok
  refine CRx.of (nL := 4) (ret := (some .boolean)) (own := RX7) (cc := cX7_isAhead) rfl (by decide) rfl (List.forall_mem_cons.mpr ⟨rfl, (List.forall_mem_cons.mpr ⟨rfl, (List.forall_mem_cons.mpr ⟨rfl, (fun _ h => absurd h List.not_mem_nil)⟩)⟩)⟩) (Nat.le_of_ble_eq_true rfl) ?_
  intro k C hkl hkg
  subst hkl; subst hkg
  refine x_loc2 (L' := [some (.ref h), some (.int a1), some (.int a2), none]) rfl ?_
  refine x_iload_n (pc' := 1) C dX7_isAhead_0 rfl rfl rfl ?_
  refine x_istore_n (pc' := 2) (L' := [some (.ref h), some (.int a1), some (.int a2), some (.int a2)]) C dX7_isAhead_1 rfl rfl (Nat.le_of_ble_eq_true rfl) rfl ?_
  have cont25 : ∀ (x3_25 : Int32), RES = k_X7_isAhead_25 a1 x3_25 → ok_X7_isAhead_25 a1 x3_25 → X k 0 0 (wMo (kg k) h ad S) 25 [none, some (.int a1), none, some (.int x3_25)] [] := by
    intro x3_25 hRES hok
    unfold k_X7_isAhead_25 at hRES
    unfold ok_X7_isAhead_25 at hok
    refine x_iload_n (pc' := 26) C dX7_isAhead_25 rfl rfl rfl ?_
    refine x_iload_n (pc' := 27) C dX7_isAhead_26 rfl rfl rfl ?_
    refine x_icmp_ne (tgt := 34) (pc' := 30) C dX7_isAhead_27 (by decide) rfl (fun c1 => ?_) (fun c1 => ?_)
    · rw [if_neg c1] at hRES
      replace hok := hok.2 c1
      refine x_iconst (v := 0) (pc' := 35) C dX7_isAhead_34 rfl (by decide) ?_
      exact x_zret (b := false) C (Nat.zero_le _) (Nat.zero_le _) dX7_isAhead_35 (by rw [hRES])
    · rw [if_pos c1] at hRES
      replace hok := hok.1 c1
      refine x_iconst (v := 1) (pc' := 31) C dX7_isAhead_30 rfl (by decide) ?_
      refine x_goto (tgt := 35) C dX7_isAhead_31 (by decide) ?_
      exact x_zret (b := true) C (Nat.zero_le _) (Nat.zero_le _) dX7_isAhead_35 (by rw [hRES])
  have loop2 : ∀ (n2 : Nat) (x3_2 : Int32), RES = l_X7_isAhead_2 S a1 n2 x3_2 → ol_X7_isAhead_2 S a1 n2 x3_2 → X k 0 0 (wMo (kg k) h ad S) 2 [some (.ref h), some (.int a1), none, some (.int x3_2)] [] := by
    intro n2
    induction n2 with
    | zero =>
      intro x3_2 hRES hok
      exact (show False from hok).elim
    | succ n2 ih2 =>
      intro x3_2 hRES hok
      rw [l_X7_isAhead_2] at hRES
      rw [ol_X7_isAhead_2] at hok
      refine x_iload_n (pc' := 3) C dX7_isAhead_2 rfl rfl rfl ?_
      refine x_iload_n (pc' := 4) C dX7_isAhead_3 rfl rfl rfl ?_
      refine x_icmp_eq (tgt := 25) (pc' := 7) C dX7_isAhead_4 (by decide) rfl (fun c2 => ?_) (fun c2 => ?_)
      · rw [if_pos c2] at hRES
        replace hok := hok.1 c2
        refine x_forget (L' := [none, some (.int a1), none, some (.int x3_2)]) [1, 2] rfl rfl ?_
        exact cont25 x3_2 hRES hok
      · rw [if_neg c2] at hRES
        replace hok := hok.2 c2
        refine x_iload_n (pc' := 8) C dX7_isAhead_7 rfl rfl rfl ?_
        refine x_if_le (tgt := 25) (pc' := 11) C dX7_isAhead_8 (by decide) rfl (fun c3 => ?_) (fun c3 => ?_)
        · rw [if_neg c3] at hRES
          replace hok := hok.2 c3
          refine x_forget (L' := [none, some (.int a1), none, some (.int x3_2)]) [1, 2] rfl rfl ?_
          exact cont25 x3_2 hRES hok
        · rw [if_pos c3] at hRES
          replace hok := hok.1 c3
          refine x_aload_n (pc' := 12) C dX7_isAhead_11 rfl rfl rfl ?_
          refine x_get (pc' := 15) (v := .ref (ad 0)) C 0 0 inBX7 rfl rfl (by decide) fl_X7_7 rfl rfl dX7_isAhead_12 rfl ?_
          refine x_iload_n (pc' := 16) C dX7_isAhead_15 rfl rfl rfl ?_
          refine x_iconst (v := 1) (pc' := 17) C dX7_isAhead_16 rfl (by decide) ?_
          refine x_RS (st := [.ref (ad 0)]) (st2 := [.int (f_X7_of x3_2 1), .ref (ad 0)]) (pc' := 20) C (c_X7_of (kl k) (kg k) x3_2 1) cw_X7_32 ok_X7_of (by decide) [] rfl rfl rfl (Nat.le_of_ble_eq_true rfl) (Nat.zero_le _) (Nat.zero_le _) rfl dX7_isAhead_17 rfl rfl ?_
          obtain ⟨hn4, hok⟩ := hok
          refine x_iald (pc' := 21) (f := S.2 0) (v := ((S.2 0) ((f_X7_of x3_2 1)).toNatClampNeg)) C 1 rfl hn4 rfl dX7_isAhead_20 rfl ?_
          refine x_istore_n (pc' := 22) (L' := [some (.ref h), some (.int a1), none, some (.int ((S.2 0) ((f_X7_of x3_2 1)).toNatClampNeg))]) C dX7_isAhead_21 rfl rfl (Nat.le_of_ble_eq_true rfl) rfl ?_
          refine x_goto (tgt := 2) C dX7_isAhead_22 (by decide) ?_
          exact ih2 ((S.2 0) ((f_X7_of x3_2 1)).toNatClampNeg) hRES hok
  refine x_forget (L' := [some (.ref h), some (.int a1), none, some (.int a2)]) [0, 1, 3] rfl rfl ?_
  exact loop2 25 a2 hRES hok

def k_X7_common_43 (x3_43 : Int32) : Int32 := x3_43
def ok_X7_common_43 (x3_43 : Int32) : Prop := True
def l_X7_common_20 (S : CS) (a2 : Int32) : Nat → Int32 → Int32
  | 0, _ => 0
  | n20 + 1, x3_20 => (if (f_X7_isAhead S x3_20 a2) = true then (k_X7_common_43 x3_20) else (l_X7_common_20 S a2 n20 ((S.2 0) ((f_X7_of x3_20 1)).toNatClampNeg)))
def ol_X7_common_20 (S : CS) (a2 : Int32) : Nat → Int32 → Prop
  | 0, _ => False
  | n20 + 1, x3_20 => ((o_X7_isAhead S x3_20 a2) ∧ (((f_X7_isAhead S x3_20 a2) = true → (ok_X7_common_43 x3_20)) ∧ (¬ (f_X7_isAhead S x3_20 a2) = true → (vp_in (f_X7_of x3_20 1) 318 ∧ (ol_X7_common_20 S a2 n20 ((S.2 0) ((f_X7_of x3_20 1)).toNatClampNeg))))))
def f_X7_common (S : CS) (a1 : Int32) (a2 : Int32) : Int32 := (if (f_X7_isVersion S a1) = true then (if (f_X7_isVersion S a2) = true then (l_X7_common_20 S a2 25 a1) else (-1)) else (-1))
def o_X7_common (S : CS) (a1 : Int32) (a2 : Int32) : Prop := ((o_X7_isVersion S a1) ∧ (((f_X7_isVersion S a1) = true → ((o_X7_isVersion S a2) ∧ (((f_X7_isVersion S a2) = true → (ol_X7_common_20 S a2 25 a1)) ∧ (¬ (f_X7_isVersion S a2) = true → True)))) ∧ (¬ (f_X7_isVersion S a1) = true → True)))
set_option maxRecDepth 100000 in
set_option maxHeartbeats 8000000 in
theorem c_X7_common (l : Launch) (g : GT) (h : Nat) (ad : Nat → Nat) (S : CS) (a1 : Int32) (a2 : Int32) (hok : o_X7_common S a1 a2) : CR l yX7_common (.code yX7_common cX7_common 4 (some .int)) 2 g [.ref h, .int a1, .int a2] (wMo g h ad S) (some (.int (f_X7_common S a1 a2))) := by
  obtain ⟨RES, hRES⟩ : ∃ z, z = (f_X7_common S a1 a2) := ⟨_, rfl⟩
  rw [← hRES]
  unfold f_X7_common at hRES
  unfold o_X7_common at hok
  refine CRx.of (nL := 4) (ret := (some .int)) (own := RX7) (cc := cX7_common) rfl (by decide) rfl (List.forall_mem_cons.mpr ⟨rfl, (List.forall_mem_cons.mpr ⟨rfl, (List.forall_mem_cons.mpr ⟨rfl, (fun _ h => absurd h List.not_mem_nil)⟩)⟩)⟩) (Nat.le_of_ble_eq_true rfl) ?_
  intro k C hkl hkg
  subst hkl; subst hkg
  refine x_loc2 (L' := [some (.ref h), some (.int a1), some (.int a2), none]) rfl ?_
  refine x_aload_n (pc' := 1) C dX7_common_0 rfl rfl rfl ?_
  refine x_iload_n (pc' := 2) C dX7_common_1 rfl rfl rfl ?_
  obtain ⟨hn1, hok⟩ := hok
  refine x_RV (st := []) (st2 := [.int (bI (f_X7_isVersion S a1))]) (pc' := 5) C (c_X7_isVersion (kl k) (kg k) h ad S a1 hn1) cw_X7_72 ok_X7_isVersion rfl (by decide) 0 rfl rfl [0, 1, 2, 3, 4, 5, 6] rfl rfl rfl (Nat.le_of_ble_eq_true rfl) (Nat.zero_le _) (Nat.zero_le _) rfl dX7_common_2 rfl rfl ?_
  refine x_ifB_eq (tgt := 16) (pc' := 8) C dX7_common_5 (by decide) rfl (fun c2 => ?_) (fun c2 => ?_)
  · rw [if_neg c2] at hRES
    replace hok := hok.2 c2
    refine x_iconst (v := (-1)) (pc' := 17) C dX7_common_16 rfl (by decide) ?_
    exact x_iret C (Nat.zero_le _) (Nat.zero_le _) dX7_common_17 (by rw [hRES])
  · rw [if_pos c2] at hRES
    replace hok := hok.1 c2
    refine x_aload_n (pc' := 9) C dX7_common_8 rfl rfl rfl ?_
    refine x_iload_n (pc' := 10) C dX7_common_9 rfl rfl rfl ?_
    obtain ⟨hn3, hok⟩ := hok
    refine x_RV (st := []) (st2 := [.int (bI (f_X7_isVersion S a2))]) (pc' := 13) C (c_X7_isVersion (kl k) (kg k) h ad S a2 hn3) cw_X7_72 ok_X7_isVersion rfl (by decide) 0 rfl rfl [0, 1, 2, 3, 4, 5, 6] rfl rfl rfl (Nat.le_of_ble_eq_true rfl) (Nat.zero_le _) (Nat.zero_le _) rfl dX7_common_10 rfl rfl ?_
    refine x_ifB_ne (tgt := 18) (pc' := 16) C dX7_common_13 (by decide) rfl (fun c4 => ?_) (fun c4 => ?_)
    · rw [if_pos c4] at hRES
      replace hok := hok.1 c4
      refine x_iload_n (pc' := 19) C dX7_common_18 rfl rfl rfl ?_
      refine x_istore_n (pc' := 20) (L' := [some (.ref h), some (.int a1), some (.int a2), some (.int a1)]) C dX7_common_19 rfl rfl (Nat.le_of_ble_eq_true rfl) rfl ?_
      have cont43 : ∀ (x3_43 : Int32), RES = k_X7_common_43 x3_43 → ok_X7_common_43 x3_43 → X k 0 0 (wMo (kg k) h ad S) 43 [none, none, none, some (.int x3_43)] [] := by
        intro x3_43 hRES hok
        unfold k_X7_common_43 at hRES
        unfold ok_X7_common_43 at hok
        refine x_iload_n (pc' := 44) C dX7_common_43 rfl rfl rfl ?_
        exact x_iret C (Nat.zero_le _) (Nat.zero_le _) dX7_common_44 (by rw [hRES])
      have loop20 : ∀ (n20 : Nat) (x3_20 : Int32), RES = l_X7_common_20 S a2 n20 x3_20 → ol_X7_common_20 S a2 n20 x3_20 → X k 0 0 (wMo (kg k) h ad S) 20 [some (.ref h), none, some (.int a2), some (.int x3_20)] [] := by
        intro n20
        induction n20 with
        | zero =>
          intro x3_20 hRES hok
          exact (show False from hok).elim
        | succ n20 ih20 =>
          intro x3_20 hRES hok
          rw [l_X7_common_20] at hRES
          rw [ol_X7_common_20] at hok
          refine x_aload_n (pc' := 21) C dX7_common_20 rfl rfl rfl ?_
          refine x_iload_n (pc' := 22) C dX7_common_21 rfl rfl rfl ?_
          refine x_iload_n (pc' := 23) C dX7_common_22 rfl rfl rfl ?_
          obtain ⟨hn5, hok⟩ := hok
          refine x_RV (st := []) (st2 := [.int (bI (f_X7_isAhead S x3_20 a2))]) (pc' := 26) C (c_X7_isAhead (kl k) (kg k) h ad S x3_20 a2 hn5) cw_X7_188 ok_X7_isAhead rfl (by decide) 0 rfl rfl [0, 1, 2, 3, 4, 5, 6] rfl rfl rfl (Nat.le_of_ble_eq_true rfl) (Nat.zero_le _) (Nat.zero_le _) rfl dX7_common_23 rfl rfl ?_
          refine x_ifB_ne (tgt := 43) (pc' := 29) C dX7_common_26 (by decide) rfl (fun c6 => ?_) (fun c6 => ?_)
          · rw [if_pos c6] at hRES
            replace hok := hok.1 c6
            refine x_forget (L' := [none, none, none, some (.int x3_20)]) [2] rfl rfl ?_
            exact cont43 x3_20 hRES hok
          · rw [if_neg c6] at hRES
            replace hok := hok.2 c6
            refine x_aload_n (pc' := 30) C dX7_common_29 rfl rfl rfl ?_
            refine x_get (pc' := 33) (v := .ref (ad 0)) C 0 0 inBX7 rfl rfl (by decide) fl_X7_7 rfl rfl dX7_common_30 rfl ?_
            refine x_iload_n (pc' := 34) C dX7_common_33 rfl rfl rfl ?_
            refine x_iconst (v := 1) (pc' := 35) C dX7_common_34 rfl (by decide) ?_
            refine x_RS (st := [.ref (ad 0)]) (st2 := [.int (f_X7_of x3_20 1), .ref (ad 0)]) (pc' := 38) C (c_X7_of (kl k) (kg k) x3_20 1) cw_X7_32 ok_X7_of (by decide) [] rfl rfl rfl (Nat.le_of_ble_eq_true rfl) (Nat.zero_le _) (Nat.zero_le _) rfl dX7_common_35 rfl rfl ?_
            obtain ⟨hn7, hok⟩ := hok
            refine x_iald (pc' := 39) (f := S.2 0) (v := ((S.2 0) ((f_X7_of x3_20 1)).toNatClampNeg)) C 1 rfl hn7 rfl dX7_common_38 rfl ?_
            refine x_istore_n (pc' := 40) (L' := [some (.ref h), none, some (.int a2), some (.int ((S.2 0) ((f_X7_of x3_20 1)).toNatClampNeg))]) C dX7_common_39 rfl rfl (Nat.le_of_ble_eq_true rfl) rfl ?_
            refine x_goto (tgt := 20) C dX7_common_40 (by decide) ?_
            exact ih20 ((S.2 0) ((f_X7_of x3_20 1)).toNatClampNeg) hRES hok
      refine x_forget (L' := [some (.ref h), none, some (.int a2), some (.int a1)]) [0, 2, 3] rfl rfl ?_
      exact loop20 25 a1 hRES hok
    · rw [if_neg c4] at hRES
      replace hok := hok.2 c4
      refine x_iconst (v := (-1)) (pc' := 17) C dX7_common_16 rfl (by decide) ?_
      exact x_iret C (Nat.zero_le _) (Nat.zero_le _) dX7_common_17 (by rw [hRES])

def k_X7_costOf_89 (S_89 : CS) (x3_89 : Int32) : Int32 × CS := (x3_89, S_89)
def ok_X7_costOf_89 (S_89 : CS) (x3_89 : Int32) : Prop := True
def l_X7_costOf_11 (S : CS) (a1 : Int32) : Nat → CS → Int32 → Nat → Int32 × CS
  | 0, _, _, _ => (0, dfCS)
  | n11 + 1, S_11, x3_11, i4_11 => (if i4_11 < 24 then (if ((S_11.2 0) ((f_X7_of (nI i4_11) 0)).toNatClampNeg) = 1 then (if (f_X7_top S_11 (nI i4_11)) = (f_X7_top S a1) then (bind1 (f_X7_cellsBetween S_11 a1 (nI i4_11)) (fun z12 => (l_X7_costOf_11 S a1 n11 z12.2 (x3_11 + (((S_11.2 0) ((f_X7_of (nI i4_11) 4)).toNatClampNeg) * (1 + z12.1))) (i4_11 + 1)))) else (l_X7_costOf_11 S a1 n11 S_11 (x3_11 + 0) (i4_11 + 1))) else (l_X7_costOf_11 S a1 n11 S_11 (x3_11 + 0) (i4_11 + 1))) else (k_X7_costOf_89 S_11 x3_11))
def ol_X7_costOf_11 (S : CS) (a1 : Int32) : Nat → CS → Int32 → Nat → Prop
  | 0, _, _, _ => True
  | n11 + 1, S_11, x3_11, i4_11 => ((i4_11 < 24 → (vp_in (f_X7_of (nI i4_11) 0) 318 ∧ ((((S_11.2 0) ((f_X7_of (nI i4_11) 0)).toNatClampNeg) = 1 → ((o_X7_top S_11 (nI i4_11)) ∧ (((f_X7_top S_11 (nI i4_11)) = (f_X7_top S a1) → (vp_in (f_X7_of (nI i4_11) 4) 318 ∧ ((o_X7_cellsBetween S_11 a1 (nI i4_11)) ∧ (bind1 (f_X7_cellsBetween S_11 a1 (nI i4_11)) (fun z12 => (ol_X7_costOf_11 S a1 n11 z12.2 (x3_11 + (((S_11.2 0) ((f_X7_of (nI i4_11) 4)).toNatClampNeg) * (1 + z12.1))) (i4_11 + 1))))))) ∧ (¬ (f_X7_top S_11 (nI i4_11)) = (f_X7_top S a1) → (ol_X7_costOf_11 S a1 n11 S_11 (x3_11 + 0) (i4_11 + 1)))))) ∧ (¬ ((S_11.2 0) ((f_X7_of (nI i4_11) 0)).toNatClampNeg) = 1 → (ol_X7_costOf_11 S a1 n11 S_11 (x3_11 + 0) (i4_11 + 1)))))) ∧ (¬ (i4_11 < 24) → (ok_X7_costOf_89 S_11 x3_11)))
def f_X7_costOf (S : CS) (a1 : Int32) : Int32 × CS := (l_X7_costOf_11 S a1 25 S 0 0)
def o_X7_costOf (S : CS) (a1 : Int32) : Prop := ((o_X7_top S a1) ∧ (ol_X7_costOf_11 S a1 25 S 0 0))
set_option maxRecDepth 100000 in
set_option maxHeartbeats 8000000 in
theorem c_X7_costOf (l : Launch) (g : GT) (h : Nat) (ad : Nat → Nat) (S : CS) (a1 : Int32) (hok : o_X7_costOf S a1) : CW l yX7_costOf (.code yX7_costOf cX7_costOf 6 (some .int)) 5 g [.ref h, .int a1] (wMo g h ad S) (some (.int (f_X7_costOf S a1).1)) (wMo g h ad (f_X7_costOf S a1).2) := by
  obtain ⟨RES, hRES⟩ : ∃ z, z = (f_X7_costOf S a1) := ⟨_, rfl⟩
  rw [← hRES]
  unfold f_X7_costOf at hRES
  unfold o_X7_costOf at hok
  refine CWx.of (nL := 6) (ret := (some .int)) (own := RX7) (cc := cX7_costOf) rfl (by decide) rfl (List.forall_mem_cons.mpr ⟨rfl, (List.forall_mem_cons.mpr ⟨rfl, (fun _ h => absurd h List.not_mem_nil)⟩)⟩) (Nat.le_of_ble_eq_true rfl) ?_
  intro k C B hin hkl hkg
  subst hkl; subst hkg
  refine x_loc2 (L' := [some (.ref h), some (.int a1), none, none, none, none]) rfl ?_
  refine x_aload_n (pc' := 1) C dX7_costOf_0 rfl rfl rfl ?_
  refine x_iload_n (pc' := 2) C dX7_costOf_1 rfl rfl rfl ?_
  obtain ⟨hn1, hok⟩ := hok
  refine x_RV (st := []) (st2 := [.int (f_X7_top S a1)]) (pc' := 5) C (c_X7_top (kl k) (kg k) h ad S a1 hn1) cw_X7_47 ok_X7_top rfl (by decide) 0 rfl rfl [0, 1, 2, 3, 4, 5, 6] rfl rfl rfl (Nat.le_of_ble_eq_true rfl) (Nat.zero_le _) (Nat.zero_le _) rfl dX7_costOf_2 rfl rfl ?_
  refine x_istore_n (pc' := 6) (L' := [some (.ref h), some (.int a1), some (.int (f_X7_top S a1)), none, none, none]) C dX7_costOf_5 rfl rfl (Nat.le_of_ble_eq_true rfl) rfl ?_
  refine x_iconst (v := 0) (pc' := 7) C dX7_costOf_6 rfl (by decide) ?_
  refine x_istore_n (pc' := 8) (L' := [some (.ref h), some (.int a1), some (.int (f_X7_top S a1)), some (.int 0), none, none]) C dX7_costOf_7 rfl rfl (Nat.le_of_ble_eq_true rfl) rfl ?_
  refine x_iconst (v := 0) (pc' := 9) C dX7_costOf_8 rfl (by decide) ?_
  refine x_istore (pc' := 11) (L' := [some (.ref h), some (.int a1), some (.int (f_X7_top S a1)), some (.int 0), some (.int 0), none]) C dX7_costOf_9 rfl (Nat.le_of_ble_eq_true rfl) rfl ?_
  have cont89 : ∀ (S_89 : CS) (x3_89 : Int32), RES = k_X7_costOf_89 S_89 x3_89 → ok_X7_costOf_89 S_89 x3_89 → X k 0 0 (wMo (kg k) h ad S_89) 89 [none, none, none, some (.int x3_89), none, none] [] := by
    intro S_89 x3_89 hRES hok
    unfold k_X7_costOf_89 at hRES
    unfold ok_X7_costOf_89 at hok
    refine x_iload_n (pc' := 90) C dX7_costOf_89 rfl rfl rfl ?_
    exact x_iret C (Nat.zero_le _) (Nat.zero_le _) dX7_costOf_90 ⟨by rw [hRES], by rw [hRES]⟩
  have loop11 : ∀ (n11 : Nat) (S_11 : CS) (x3_11 : Int32) (i4_11 : Nat), i4_11 ≤ 24 → 24 < i4_11 + n11 → RES = l_X7_costOf_11 S a1 n11 S_11 x3_11 i4_11 → ol_X7_costOf_11 S a1 n11 S_11 x3_11 i4_11 → X k 0 0 (wMo (kg k) h ad S_11) 11 [some (.ref h), some (.int a1), some (.int (f_X7_top S a1)), some (.int x3_11), some (.int (nI i4_11)), none] [] := by
    intro n11
    induction n11 with
    | zero =>
      intro S_11 x3_11 i4_11 hb11 hf11 hRES hok
      omega
    | succ n11 ih11 =>
      intro S_11 x3_11 i4_11 hb11 hf11 hRES hok
      rw [l_X7_costOf_11] at hRES
      rw [ol_X7_costOf_11] at hok
      refine x_iload (pc' := 13) C dX7_costOf_11 rfl rfl ?_
      refine x_bipush (v := 24) (pc' := 15) C dX7_costOf_13 rfl (by decide) ?_
      refine x_icmpN_ge (tgt := 89) (pc' := 18) C i4_11 24 dX7_costOf_15 (by decide) rfl (by omega) (by omega) (fun c2 => ?_) (fun c2 => ?_)
      · rw [if_neg c2] at hRES
        replace hok := hok.2 c2
        refine x_forget (L' := [none, none, none, some (.int x3_11), none, none]) [3] rfl rfl ?_
        exact cont89 S_11 x3_11 hRES hok
      · rw [if_pos c2] at hRES
        replace hok := hok.1 c2
        refine x_aload_n (pc' := 19) C dX7_costOf_18 rfl rfl rfl ?_
        refine x_get (pc' := 22) (v := .ref (ad 0)) C 0 0 inBX7 rfl rfl (by decide) fl_X7_7 rfl rfl dX7_costOf_19 rfl ?_
        refine x_iload (pc' := 24) C dX7_costOf_22 rfl rfl ?_
        refine x_iconst (v := 0) (pc' := 25) C dX7_costOf_24 rfl (by decide) ?_
        refine x_RS (st := [.ref (ad 0)]) (st2 := [.int (f_X7_of (nI i4_11) 0), .ref (ad 0)]) (pc' := 28) C (c_X7_of (kl k) (kg k) (nI i4_11) 0) cw_X7_32 ok_X7_of (by decide) [] rfl rfl rfl (Nat.le_of_ble_eq_true rfl) (Nat.zero_le _) (Nat.zero_le _) rfl dX7_costOf_25 rfl rfl ?_
        obtain ⟨hn3, hok⟩ := hok
        refine x_iald (pc' := 29) (f := S_11.2 0) (v := ((S_11.2 0) ((f_X7_of (nI i4_11) 0)).toNatClampNeg)) C 1 rfl hn3 rfl dX7_costOf_28 rfl ?_
        refine x_iconst (v := 1) (pc' := 30) C dX7_costOf_29 rfl (by decide) ?_
        refine x_icmp_ne (tgt := 47) (pc' := 33) C dX7_costOf_30 (by decide) rfl (fun c4 => ?_) (fun c4 => ?_)
        · rw [if_neg c4] at hRES
          replace hok := hok.2 c4
          refine x_iconst (v := 0) (pc' := 48) C dX7_costOf_47 rfl (by decide) ?_
          refine x_istore (pc' := 50) (L' := [some (.ref h), some (.int a1), some (.int (f_X7_top S a1)), some (.int x3_11), some (.int (nI i4_11)), some (.int 0)]) C dX7_costOf_48 rfl (Nat.le_of_ble_eq_true rfl) rfl ?_
          refine x_iload_n (pc' := 51) C dX7_costOf_50 rfl rfl rfl ?_
          refine x_iload (pc' := 53) C dX7_costOf_51 rfl rfl ?_
          refine x_if_eq (tgt := 80) (pc' := 56) C dX7_costOf_53 (by decide) rfl (fun c5 => ?_) (fun c5 => absurd c5 (by decide))
          refine x_iconst (v := 0) (pc' := 81) C dX7_costOf_80 rfl (by decide) ?_
          refine x_iadd (pc' := 82) (v := (x3_11 + 0)) C dX7_costOf_81 rfl rfl ?_
          refine x_istore_n (pc' := 83) (L' := [some (.ref h), some (.int a1), some (.int (f_X7_top S a1)), some (.int (x3_11 + 0)), some (.int (nI i4_11)), some (.int 0)]) C dX7_costOf_82 rfl rfl (Nat.le_of_ble_eq_true rfl) rfl ?_
          refine x_iinc (pc' := 86) (v := (nI (i4_11 + 1))) (L' := [some (.ref h), some (.int a1), some (.int (f_X7_top S a1)), some (.int (x3_11 + 0)), some (.int (nI (i4_11 + 1))), some (.int 0)]) C dX7_costOf_83 rfl rfl (nI_add i4_11 1) (Nat.le_of_ble_eq_true rfl) rfl ?_
          refine x_goto (tgt := 11) C dX7_costOf_86 (by decide) ?_
          refine x_forget (L' := [some (.ref h), some (.int a1), some (.int (f_X7_top S a1)), some (.int (x3_11 + 0)), some (.int (nI (i4_11 + 1))), none]) [0, 1, 2, 3, 4] rfl rfl ?_
          exact ih11 S_11 (x3_11 + 0) (i4_11 + 1) (by omega) (by omega) hRES hok
        · rw [if_pos c4] at hRES
          replace hok := hok.1 c4
          refine x_aload_n (pc' := 34) C dX7_costOf_33 rfl rfl rfl ?_
          refine x_iload (pc' := 36) C dX7_costOf_34 rfl rfl ?_
          obtain ⟨hn6, hok⟩ := hok
          refine x_RV (st := []) (st2 := [.int (f_X7_top S_11 (nI i4_11))]) (pc' := 39) C (c_X7_top (kl k) (kg k) h ad S_11 (nI i4_11) hn6) cw_X7_47 ok_X7_top rfl (by decide) 0 rfl rfl [0, 1, 2, 3, 4, 5, 6] rfl rfl rfl (Nat.le_of_ble_eq_true rfl) (Nat.zero_le _) (Nat.zero_le _) rfl dX7_costOf_36 rfl rfl ?_
          refine x_iload_n (pc' := 40) C dX7_costOf_39 rfl rfl rfl ?_
          refine x_icmp_ne (tgt := 47) (pc' := 43) C dX7_costOf_40 (by decide) rfl (fun c7 => ?_) (fun c7 => ?_)
          · rw [if_neg c7] at hRES
            replace hok := hok.2 c7
            refine x_iconst (v := 0) (pc' := 48) C dX7_costOf_47 rfl (by decide) ?_
            refine x_istore (pc' := 50) (L' := [some (.ref h), some (.int a1), some (.int (f_X7_top S a1)), some (.int x3_11), some (.int (nI i4_11)), some (.int 0)]) C dX7_costOf_48 rfl (Nat.le_of_ble_eq_true rfl) rfl ?_
            refine x_iload_n (pc' := 51) C dX7_costOf_50 rfl rfl rfl ?_
            refine x_iload (pc' := 53) C dX7_costOf_51 rfl rfl ?_
            refine x_if_eq (tgt := 80) (pc' := 56) C dX7_costOf_53 (by decide) rfl (fun c8 => ?_) (fun c8 => absurd c8 (by decide))
            refine x_iconst (v := 0) (pc' := 81) C dX7_costOf_80 rfl (by decide) ?_
            refine x_iadd (pc' := 82) (v := (x3_11 + 0)) C dX7_costOf_81 rfl rfl ?_
            refine x_istore_n (pc' := 83) (L' := [some (.ref h), some (.int a1), some (.int (f_X7_top S a1)), some (.int (x3_11 + 0)), some (.int (nI i4_11)), some (.int 0)]) C dX7_costOf_82 rfl rfl (Nat.le_of_ble_eq_true rfl) rfl ?_
            refine x_iinc (pc' := 86) (v := (nI (i4_11 + 1))) (L' := [some (.ref h), some (.int a1), some (.int (f_X7_top S a1)), some (.int (x3_11 + 0)), some (.int (nI (i4_11 + 1))), some (.int 0)]) C dX7_costOf_83 rfl rfl (nI_add i4_11 1) (Nat.le_of_ble_eq_true rfl) rfl ?_
            refine x_goto (tgt := 11) C dX7_costOf_86 (by decide) ?_
            refine x_forget (L' := [some (.ref h), some (.int a1), some (.int (f_X7_top S a1)), some (.int (x3_11 + 0)), some (.int (nI (i4_11 + 1))), none]) [0, 1, 2, 3, 4] rfl rfl ?_
            exact ih11 S_11 (x3_11 + 0) (i4_11 + 1) (by omega) (by omega) hRES hok
          · rw [if_pos c7] at hRES
            replace hok := hok.1 c7
            refine x_iconst (v := 1) (pc' := 44) C dX7_costOf_43 rfl (by decide) ?_
            refine x_goto (tgt := 48) C dX7_costOf_44 (by decide) ?_
            refine x_istore (pc' := 50) (L' := [some (.ref h), some (.int a1), some (.int (f_X7_top S a1)), some (.int x3_11), some (.int (nI i4_11)), some (.int 1)]) C dX7_costOf_48 rfl (Nat.le_of_ble_eq_true rfl) rfl ?_
            refine x_iload_n (pc' := 51) C dX7_costOf_50 rfl rfl rfl ?_
            refine x_iload (pc' := 53) C dX7_costOf_51 rfl rfl ?_
            refine x_if_eq (tgt := 80) (pc' := 56) C dX7_costOf_53 (by decide) rfl (fun c9 => absurd c9 (by decide)) (fun c9 => ?_)
            refine x_aload_n (pc' := 57) C dX7_costOf_56 rfl rfl rfl ?_
            refine x_get (pc' := 60) (v := .ref (ad 0)) C 0 0 inBX7 rfl rfl (by decide) fl_X7_7 rfl rfl dX7_costOf_57 rfl ?_
            refine x_iload (pc' := 62) C dX7_costOf_60 rfl rfl ?_
            refine x_iconst (v := 4) (pc' := 63) C dX7_costOf_62 rfl (by decide) ?_
            refine x_RS (st := [.ref (ad 0), .int x3_11]) (st2 := [.int (f_X7_of (nI i4_11) 4), .ref (ad 0), .int x3_11]) (pc' := 66) C (c_X7_of (kl k) (kg k) (nI i4_11) 4) cw_X7_32 ok_X7_of (by decide) [] rfl rfl rfl (Nat.le_of_ble_eq_true rfl) (Nat.zero_le _) (Nat.zero_le _) rfl dX7_costOf_63 rfl rfl ?_
            obtain ⟨hn10, hok⟩ := hok
            refine x_iald (pc' := 67) (f := S_11.2 0) (v := ((S_11.2 0) ((f_X7_of (nI i4_11) 4)).toNatClampNeg)) C 1 rfl hn10 rfl dX7_costOf_66 rfl ?_
            refine x_iconst (v := 1) (pc' := 68) C dX7_costOf_67 rfl (by decide) ?_
            refine x_aload_n (pc' := 69) C dX7_costOf_68 rfl rfl rfl ?_
            refine x_iload_n (pc' := 70) C dX7_costOf_69 rfl rfl rfl ?_
            refine x_iload (pc' := 72) C dX7_costOf_70 rfl rfl ?_
            obtain ⟨hn11, hok⟩ := hok
            obtain ⟨z12, ez12⟩ : ∃ z, z = (f_X7_cellsBetween S_11 a1 (nI i4_11)) := ⟨_, rfl⟩
            replace hRES := bd hRES z12 ez12
            replace hok := bdP hok z12 ez12
            have hc := c_X7_cellsBetween (kl k) (kg k) h ad S_11 a1 (nI i4_11) hn11
            rw [← ez12] at hc
            refine x_WV (st := [.int 1, .int ((S_11.2 0) ((f_X7_of (nI i4_11) 4)).toNatClampNeg), .int x3_11]) (st2 := [.int z12.1, .int 1, .int ((S_11.2 0) ((f_X7_of (nI i4_11) 4)).toNatClampNeg), .int x3_11]) (pc' := 75) C B hc cw_X7_87 ok_X7_cellsBetween rfl (by decide) 0 rfl rfl [0, 1, 2, 3, 4, 5, 6] [] [0, 1, 2, 3, 4, 5, 6] (wMo (kg k) h ad z12.2) rfl rfl rfl rfl (by decide) rfl rfl rfl (Nat.le_of_ble_eq_true rfl) (Nat.zero_le _) (Nat.zero_le _) rfl dX7_costOf_72 rfl rfl ?_
            refine x_iadd (pc' := 76) (v := (1 + z12.1)) C dX7_costOf_75 rfl rfl ?_
            refine x_imul (pc' := 77) (v := (((S_11.2 0) ((f_X7_of (nI i4_11) 4)).toNatClampNeg) * (1 + z12.1))) C dX7_costOf_76 rfl rfl ?_
            refine x_goto (tgt := 81) C dX7_costOf_77 (by decide) ?_
            refine x_iadd (pc' := 82) (v := (x3_11 + (((S_11.2 0) ((f_X7_of (nI i4_11) 4)).toNatClampNeg) * (1 + z12.1)))) C dX7_costOf_81 rfl rfl ?_
            refine x_istore_n (pc' := 83) (L' := [some (.ref h), some (.int a1), some (.int (f_X7_top S a1)), some (.int (x3_11 + (((S_11.2 0) ((f_X7_of (nI i4_11) 4)).toNatClampNeg) * (1 + z12.1)))), some (.int (nI i4_11)), some (.int 1)]) C dX7_costOf_82 rfl rfl (Nat.le_of_ble_eq_true rfl) rfl ?_
            refine x_iinc (pc' := 86) (v := (nI (i4_11 + 1))) (L' := [some (.ref h), some (.int a1), some (.int (f_X7_top S a1)), some (.int (x3_11 + (((S_11.2 0) ((f_X7_of (nI i4_11) 4)).toNatClampNeg) * (1 + z12.1)))), some (.int (nI (i4_11 + 1))), some (.int 1)]) C dX7_costOf_83 rfl rfl (nI_add i4_11 1) (Nat.le_of_ble_eq_true rfl) rfl ?_
            refine x_goto (tgt := 11) C dX7_costOf_86 (by decide) ?_
            refine x_forget (L' := [some (.ref h), some (.int a1), some (.int (f_X7_top S a1)), some (.int (x3_11 + (((S_11.2 0) ((f_X7_of (nI i4_11) 4)).toNatClampNeg) * (1 + z12.1)))), some (.int (nI (i4_11 + 1))), none]) [0, 1, 2, 3, 4] rfl rfl ?_
            exact ih11 z12.2 (x3_11 + (((S_11.2 0) ((f_X7_of (nI i4_11) 4)).toNatClampNeg) * (1 + z12.1))) (i4_11 + 1) (by omega) (by omega) hRES hok
  exact loop11 25 S 0 0 (by omega) (by omega) hRES hok

def f_X7_ifRoot (S : CS) (a1 : Int32) : Int32 × CS := (if (f_X7_isVersion S a1) = true then (bind1 (f_X7_costOf S a1) (fun z4 => (z4.1, z4.2))) else ((-1), S))
def o_X7_ifRoot (S : CS) (a1 : Int32) : Prop := ((o_X7_isVersion S a1) ∧ (((f_X7_isVersion S a1) = true → ((o_X7_costOf S a1) ∧ (bind1 (f_X7_costOf S a1) (fun z4 => True)))) ∧ (¬ (f_X7_isVersion S a1) = true → True)))
set_option maxRecDepth 100000 in
set_option maxHeartbeats 8000000 in
theorem c_X7_ifRoot (l : Launch) (g : GT) (h : Nat) (ad : Nat → Nat) (S : CS) (a1 : Int32) (hok : o_X7_ifRoot S a1) : CW l yX7_ifRoot (.code yX7_ifRoot cX7_ifRoot 2 (some .int)) 6 g [.ref h, .int a1] (wMo g h ad S) (some (.int (f_X7_ifRoot S a1).1)) (wMo g h ad (f_X7_ifRoot S a1).2) := by
  obtain ⟨RES, hRES⟩ : ∃ z, z = (f_X7_ifRoot S a1) := ⟨_, rfl⟩
  rw [← hRES]
  unfold f_X7_ifRoot at hRES
  unfold o_X7_ifRoot at hok
  refine CWx.of (nL := 2) (ret := (some .int)) (own := RX7) (cc := cX7_ifRoot) rfl (by decide) rfl (List.forall_mem_cons.mpr ⟨rfl, (List.forall_mem_cons.mpr ⟨rfl, (fun _ h => absurd h List.not_mem_nil)⟩)⟩) (Nat.le_of_ble_eq_true rfl) ?_
  intro k C B hin hkl hkg
  subst hkl; subst hkg
  refine x_loc2 (L' := [some (.ref h), some (.int a1)]) rfl ?_
  refine x_aload_n (pc' := 1) C dX7_ifRoot_0 rfl rfl rfl ?_
  refine x_iload_n (pc' := 2) C dX7_ifRoot_1 rfl rfl rfl ?_
  obtain ⟨hn1, hok⟩ := hok
  refine x_RV (st := []) (st2 := [.int (bI (f_X7_isVersion S a1))]) (pc' := 5) C (c_X7_isVersion (kl k) (kg k) h ad S a1 hn1) cw_X7_72 ok_X7_isVersion rfl (by decide) 0 rfl rfl [0, 1, 2, 3, 4, 5, 6] rfl rfl rfl (Nat.le_of_ble_eq_true rfl) (Nat.zero_le _) (Nat.zero_le _) rfl dX7_ifRoot_2 rfl rfl ?_
  refine x_ifB_eq (tgt := 16) (pc' := 8) C dX7_ifRoot_5 (by decide) rfl (fun c2 => ?_) (fun c2 => ?_)
  · rw [if_neg c2] at hRES
    replace hok := hok.2 c2
    refine x_iconst (v := (-1)) (pc' := 17) C dX7_ifRoot_16 rfl (by decide) ?_
    exact x_iret C (Nat.zero_le _) (Nat.zero_le _) dX7_ifRoot_17 ⟨by rw [hRES], by rw [hRES]⟩
  · rw [if_pos c2] at hRES
    replace hok := hok.1 c2
    refine x_aload_n (pc' := 9) C dX7_ifRoot_8 rfl rfl rfl ?_
    refine x_iload_n (pc' := 10) C dX7_ifRoot_9 rfl rfl rfl ?_
    obtain ⟨hn3, hok⟩ := hok
    obtain ⟨z4, ez4⟩ : ∃ z, z = (f_X7_costOf S a1) := ⟨_, rfl⟩
    replace hRES := bd hRES z4 ez4
    replace hok := bdP hok z4 ez4
    have hc := c_X7_costOf (kl k) (kg k) h ad S a1 hn3
    rw [← ez4] at hc
    refine x_WV (st := []) (st2 := [.int z4.1]) (pc' := 13) C B hc cw_X7_191 ok_X7_costOf rfl (by decide) 0 rfl rfl [0, 1, 2, 3, 4, 5, 6] [] [0, 1, 2, 3, 4, 5, 6] (wMo (kg k) h ad z4.2) rfl rfl rfl rfl (by decide) rfl rfl rfl (Nat.le_of_ble_eq_true rfl) (Nat.zero_le _) (Nat.zero_le _) rfl dX7_ifRoot_10 rfl rfl ?_
    refine x_goto (tgt := 17) C dX7_ifRoot_13 (by decide) ?_
    exact x_iret C (Nat.zero_le _) (Nat.zero_le _) dX7_ifRoot_17 ⟨by rw [hRES], by rw [hRES]⟩

def k_X7_bestRoot_107 (S_107 : CS) (x3_107 : Int32) : Int32 × CS := (x3_107, S_107)
def ok_X7_bestRoot_107 (S_107 : CS) (x3_107 : Int32) : Prop := True
def l_X7_bestRoot_26 (S : CS) (a1 : Int32) : Nat → CS → Int32 → Int32 → Nat → Int32 × CS
  | 0, _, _, _, _ => (0, dfCS)
  | n26 + 1, S_26, x3_26, x4_26, i5_26 => (if i5_26 < 24 then (if ((S_26.2 0) ((f_X7_of (nI i5_26) 0)).toNatClampNeg) = 1 then (if (f_X7_top S_26 (nI i5_26)) = (f_X7_top S a1) then (bind1 (f_X7_costOf S_26 (nI i5_26)) (fun z16 => (if z16.1 < x4_26 then (l_X7_bestRoot_26 S a1 n26 z16.2 (nI i5_26) z16.1 (i5_26 + 1)) else (l_X7_bestRoot_26 S a1 n26 z16.2 x3_26 x4_26 (i5_26 + 1))))) else (if 1000000000 < x4_26 then (l_X7_bestRoot_26 S a1 n26 S_26 (nI i5_26) 1000000000 (i5_26 + 1)) else (l_X7_bestRoot_26 S a1 n26 S_26 x3_26 x4_26 (i5_26 + 1)))) else (if 1000000000 < x4_26 then (l_X7_bestRoot_26 S a1 n26 S_26 (nI i5_26) 1000000000 (i5_26 + 1)) else (l_X7_bestRoot_26 S a1 n26 S_26 x3_26 x4_26 (i5_26 + 1)))) else (k_X7_bestRoot_107 S_26 x3_26))
def ol_X7_bestRoot_26 (S : CS) (a1 : Int32) : Nat → CS → Int32 → Int32 → Nat → Prop
  | 0, _, _, _, _ => True
  | n26 + 1, S_26, x3_26, x4_26, i5_26 => ((i5_26 < 24 → (vp_in (f_X7_of (nI i5_26) 0) 318 ∧ ((((S_26.2 0) ((f_X7_of (nI i5_26) 0)).toNatClampNeg) = 1 → ((o_X7_top S_26 (nI i5_26)) ∧ (((f_X7_top S_26 (nI i5_26)) = (f_X7_top S a1) → ((o_X7_costOf S_26 (nI i5_26)) ∧ (bind1 (f_X7_costOf S_26 (nI i5_26)) (fun z16 => ((z16.1 < x4_26 → (ol_X7_bestRoot_26 S a1 n26 z16.2 (nI i5_26) z16.1 (i5_26 + 1))) ∧ (¬ (z16.1 < x4_26) → (ol_X7_bestRoot_26 S a1 n26 z16.2 x3_26 x4_26 (i5_26 + 1)))))))) ∧ (¬ (f_X7_top S_26 (nI i5_26)) = (f_X7_top S a1) → ((1000000000 < x4_26 → (ol_X7_bestRoot_26 S a1 n26 S_26 (nI i5_26) 1000000000 (i5_26 + 1))) ∧ (¬ (1000000000 < x4_26) → (ol_X7_bestRoot_26 S a1 n26 S_26 x3_26 x4_26 (i5_26 + 1)))))))) ∧ (¬ ((S_26.2 0) ((f_X7_of (nI i5_26) 0)).toNatClampNeg) = 1 → ((1000000000 < x4_26 → (ol_X7_bestRoot_26 S a1 n26 S_26 (nI i5_26) 1000000000 (i5_26 + 1))) ∧ (¬ (1000000000 < x4_26) → (ol_X7_bestRoot_26 S a1 n26 S_26 x3_26 x4_26 (i5_26 + 1)))))))) ∧ (¬ (i5_26 < 24) → (ok_X7_bestRoot_107 S_26 x3_26)))
def f_X7_bestRoot (S : CS) (a1 : Int32) : Int32 × CS := (if (f_X7_isVersion S a1) = true then (l_X7_bestRoot_26 S a1 25 S (-5) 1000000000 0) else ((-1), S))
def o_X7_bestRoot (S : CS) (a1 : Int32) : Prop := ((o_X7_isVersion S a1) ∧ (((f_X7_isVersion S a1) = true → ((o_X7_top S a1) ∧ (ol_X7_bestRoot_26 S a1 25 S (-5) 1000000000 0))) ∧ (¬ (f_X7_isVersion S a1) = true → True)))
set_option maxRecDepth 100000 in
set_option maxHeartbeats 8000000 in
theorem c_X7_bestRoot (l : Launch) (g : GT) (h : Nat) (ad : Nat → Nat) (S : CS) (a1 : Int32) (hok : o_X7_bestRoot S a1) : CW l yX7_bestRoot (.code yX7_bestRoot cX7_bestRoot 7 (some .int)) 6 g [.ref h, .int a1] (wMo g h ad S) (some (.int (f_X7_bestRoot S a1).1)) (wMo g h ad (f_X7_bestRoot S a1).2) := by
  obtain ⟨RES, hRES⟩ : ∃ z, z = (f_X7_bestRoot S a1) := ⟨_, rfl⟩
  rw [← hRES]
  unfold f_X7_bestRoot at hRES
  unfold o_X7_bestRoot at hok
  refine CWx.of (nL := 7) (ret := (some .int)) (own := RX7) (cc := cX7_bestRoot) rfl (by decide) rfl (List.forall_mem_cons.mpr ⟨rfl, (List.forall_mem_cons.mpr ⟨rfl, (fun _ h => absurd h List.not_mem_nil)⟩)⟩) (Nat.le_of_ble_eq_true rfl) ?_
  intro k C B hin hkl hkg
  subst hkl; subst hkg
  refine x_loc2 (L' := [some (.ref h), some (.int a1), none, none, none, none, none]) rfl ?_
  refine x_aload_n (pc' := 1) C dX7_bestRoot_0 rfl rfl rfl ?_
  refine x_iload_n (pc' := 2) C dX7_bestRoot_1 rfl rfl rfl ?_
  obtain ⟨hn1, hok⟩ := hok
  refine x_RV (st := []) (st2 := [.int (bI (f_X7_isVersion S a1))]) (pc' := 5) C (c_X7_isVersion (kl k) (kg k) h ad S a1 hn1) cw_X7_72 ok_X7_isVersion rfl (by decide) 0 rfl rfl [0, 1, 2, 3, 4, 5, 6] rfl rfl rfl (Nat.le_of_ble_eq_true rfl) (Nat.zero_le _) (Nat.zero_le _) rfl dX7_bestRoot_2 rfl rfl ?_
  refine x_ifB_ne (tgt := 10) (pc' := 8) C dX7_bestRoot_5 (by decide) rfl (fun c2 => ?_) (fun c2 => ?_)
  · rw [if_pos c2] at hRES
    replace hok := hok.1 c2
    refine x_aload_n (pc' := 11) C dX7_bestRoot_10 rfl rfl rfl ?_
    refine x_iload_n (pc' := 12) C dX7_bestRoot_11 rfl rfl rfl ?_
    obtain ⟨hn3, hok⟩ := hok
    refine x_RV (st := []) (st2 := [.int (f_X7_top S a1)]) (pc' := 15) C (c_X7_top (kl k) (kg k) h ad S a1 hn3) cw_X7_47 ok_X7_top rfl (by decide) 0 rfl rfl [0, 1, 2, 3, 4, 5, 6] rfl rfl rfl (Nat.le_of_ble_eq_true rfl) (Nat.zero_le _) (Nat.zero_le _) rfl dX7_bestRoot_12 rfl rfl ?_
    refine x_istore_n (pc' := 16) (L' := [some (.ref h), some (.int a1), some (.int (f_X7_top S a1)), none, none, none, none]) C dX7_bestRoot_15 rfl rfl (Nat.le_of_ble_eq_true rfl) rfl ?_
    refine x_bipush (v := (-5)) (pc' := 18) C dX7_bestRoot_16 rfl (by decide) ?_
    refine x_istore_n (pc' := 19) (L' := [some (.ref h), some (.int a1), some (.int (f_X7_top S a1)), some (.int (-5)), none, none, none]) C dX7_bestRoot_18 rfl rfl (Nat.le_of_ble_eq_true rfl) rfl ?_
    refine x_ldci (v := 1000000000) (pc' := 21) C kn_X7_194 dX7_bestRoot_19 rfl ?_
    refine x_istore (pc' := 23) (L' := [some (.ref h), some (.int a1), some (.int (f_X7_top S a1)), some (.int (-5)), some (.int 1000000000), none, none]) C dX7_bestRoot_21 rfl (Nat.le_of_ble_eq_true rfl) rfl ?_
    refine x_iconst (v := 0) (pc' := 24) C dX7_bestRoot_23 rfl (by decide) ?_
    refine x_istore (pc' := 26) (L' := [some (.ref h), some (.int a1), some (.int (f_X7_top S a1)), some (.int (-5)), some (.int 1000000000), some (.int 0), none]) C dX7_bestRoot_24 rfl (Nat.le_of_ble_eq_true rfl) rfl ?_
    have cont107 : ∀ (S_107 : CS) (x3_107 : Int32), RES = k_X7_bestRoot_107 S_107 x3_107 → ok_X7_bestRoot_107 S_107 x3_107 → X k 0 0 (wMo (kg k) h ad S_107) 107 [none, none, none, some (.int x3_107), none, none, none] [] := by
      intro S_107 x3_107 hRES hok
      unfold k_X7_bestRoot_107 at hRES
      unfold ok_X7_bestRoot_107 at hok
      refine x_iload_n (pc' := 108) C dX7_bestRoot_107 rfl rfl rfl ?_
      exact x_iret C (Nat.zero_le _) (Nat.zero_le _) dX7_bestRoot_108 ⟨by rw [hRES], by rw [hRES]⟩
    have loop26 : ∀ (n26 : Nat) (S_26 : CS) (x3_26 : Int32) (x4_26 : Int32) (i5_26 : Nat), i5_26 ≤ 24 → 24 < i5_26 + n26 → RES = l_X7_bestRoot_26 S a1 n26 S_26 x3_26 x4_26 i5_26 → ol_X7_bestRoot_26 S a1 n26 S_26 x3_26 x4_26 i5_26 → X k 0 0 (wMo (kg k) h ad S_26) 26 [some (.ref h), none, some (.int (f_X7_top S a1)), some (.int x3_26), some (.int x4_26), some (.int (nI i5_26)), none] [] := by
      intro n26
      induction n26 with
      | zero =>
        intro S_26 x3_26 x4_26 i5_26 hb26 hf26 hRES hok
        omega
      | succ n26 ih26 =>
        intro S_26 x3_26 x4_26 i5_26 hb26 hf26 hRES hok
        rw [l_X7_bestRoot_26] at hRES
        rw [ol_X7_bestRoot_26] at hok
        refine x_iload (pc' := 28) C dX7_bestRoot_26 rfl rfl ?_
        refine x_bipush (v := 24) (pc' := 30) C dX7_bestRoot_28 rfl (by decide) ?_
        refine x_icmpN_ge (tgt := 107) (pc' := 33) C i5_26 24 dX7_bestRoot_30 (by decide) rfl (by omega) (by omega) (fun c4 => ?_) (fun c4 => ?_)
        · rw [if_neg c4] at hRES
          replace hok := hok.2 c4
          refine x_forget (L' := [none, none, none, some (.int x3_26), none, none, none]) [2] rfl rfl ?_
          exact cont107 S_26 x3_26 hRES hok
        · rw [if_pos c4] at hRES
          replace hok := hok.1 c4
          refine x_aload_n (pc' := 34) C dX7_bestRoot_33 rfl rfl rfl ?_
          refine x_get (pc' := 37) (v := .ref (ad 0)) C 0 0 inBX7 rfl rfl (by decide) fl_X7_7 rfl rfl dX7_bestRoot_34 rfl ?_
          refine x_iload (pc' := 39) C dX7_bestRoot_37 rfl rfl ?_
          refine x_iconst (v := 0) (pc' := 40) C dX7_bestRoot_39 rfl (by decide) ?_
          refine x_RS (st := [.ref (ad 0)]) (st2 := [.int (f_X7_of (nI i5_26) 0), .ref (ad 0)]) (pc' := 43) C (c_X7_of (kl k) (kg k) (nI i5_26) 0) cw_X7_32 ok_X7_of (by decide) [] rfl rfl rfl (Nat.le_of_ble_eq_true rfl) (Nat.zero_le _) (Nat.zero_le _) rfl dX7_bestRoot_40 rfl rfl ?_
          obtain ⟨hn5, hok⟩ := hok
          refine x_iald (pc' := 44) (f := S_26.2 0) (v := ((S_26.2 0) ((f_X7_of (nI i5_26) 0)).toNatClampNeg)) C 1 rfl hn5 rfl dX7_bestRoot_43 rfl ?_
          refine x_iconst (v := 1) (pc' := 45) C dX7_bestRoot_44 rfl (by decide) ?_
          refine x_icmp_ne (tgt := 67) (pc' := 48) C dX7_bestRoot_45 (by decide) rfl (fun c6 => ?_) (fun c6 => ?_)
          · rw [if_neg c6] at hRES
            replace hok := hok.2 c6
            refine x_ldci (v := 1000000000) (pc' := 69) C kn_X7_194 dX7_bestRoot_67 rfl ?_
            refine x_istore (pc' := 71) (L' := [some (.ref h), none, some (.int (f_X7_top S a1)), some (.int x3_26), some (.int x4_26), some (.int (nI i5_26)), some (.int 1000000000)]) C dX7_bestRoot_69 rfl (Nat.le_of_ble_eq_true rfl) rfl ?_
            refine x_iload (pc' := 73) C dX7_bestRoot_71 rfl rfl ?_
            refine x_iload (pc' := 75) C dX7_bestRoot_73 rfl rfl ?_
            refine x_icmp_ge (tgt := 83) (pc' := 78) C dX7_bestRoot_75 (by decide) rfl (fun c7 => ?_) (fun c7 => ?_)
            · rw [if_neg c7] at hRES
              replace hok := hok.2 c7
              refine x_iload_n (pc' := 84) C dX7_bestRoot_83 rfl rfl rfl ?_
              refine x_istore_n (pc' := 85) (L' := [some (.ref h), none, some (.int (f_X7_top S a1)), some (.int x3_26), some (.int x4_26), some (.int (nI i5_26)), some (.int 1000000000)]) C dX7_bestRoot_84 rfl rfl (Nat.le_of_ble_eq_true rfl) rfl ?_
              refine x_iload (pc' := 87) C dX7_bestRoot_85 rfl rfl ?_
              refine x_iload (pc' := 89) C dX7_bestRoot_87 rfl rfl ?_
              refine x_icmp_ge (tgt := 97) (pc' := 92) C dX7_bestRoot_89 (by decide) rfl (fun c8 => ?_) (fun c8 => ?_)
              · refine x_iload (pc' := 99) C dX7_bestRoot_97 rfl rfl ?_
                refine x_istore (pc' := 101) (L' := [some (.ref h), none, some (.int (f_X7_top S a1)), some (.int x3_26), some (.int x4_26), some (.int (nI i5_26)), some (.int 1000000000)]) C dX7_bestRoot_99 rfl (Nat.le_of_ble_eq_true rfl) rfl ?_
                refine x_iinc (pc' := 104) (v := (nI (i5_26 + 1))) (L' := [some (.ref h), none, some (.int (f_X7_top S a1)), some (.int x3_26), some (.int x4_26), some (.int (nI (i5_26 + 1))), some (.int 1000000000)]) C dX7_bestRoot_101 rfl rfl (nI_add i5_26 1) (Nat.le_of_ble_eq_true rfl) rfl ?_
                refine x_goto (tgt := 26) C dX7_bestRoot_104 (by decide) ?_
                refine x_forget (L' := [some (.ref h), none, some (.int (f_X7_top S a1)), some (.int x3_26), some (.int x4_26), some (.int (nI (i5_26 + 1))), none]) [0, 1, 2, 3, 4] rfl rfl ?_
                exact ih26 S_26 x3_26 x4_26 (i5_26 + 1) (by omega) (by omega) hRES hok
              · exact absurd c8 c7
            · rw [if_pos c7] at hRES
              replace hok := hok.1 c7
              refine x_iload (pc' := 80) C dX7_bestRoot_78 rfl rfl ?_
              refine x_goto (tgt := 84) C dX7_bestRoot_80 (by decide) ?_
              refine x_istore_n (pc' := 85) (L' := [some (.ref h), none, some (.int (f_X7_top S a1)), some (.int (nI i5_26)), some (.int x4_26), some (.int (nI i5_26)), some (.int 1000000000)]) C dX7_bestRoot_84 rfl rfl (Nat.le_of_ble_eq_true rfl) rfl ?_
              refine x_iload (pc' := 87) C dX7_bestRoot_85 rfl rfl ?_
              refine x_iload (pc' := 89) C dX7_bestRoot_87 rfl rfl ?_
              refine x_icmp_ge (tgt := 97) (pc' := 92) C dX7_bestRoot_89 (by decide) rfl (fun c9 => ?_) (fun c9 => ?_)
              · exact absurd c7 c9
              · refine x_iload (pc' := 94) C dX7_bestRoot_92 rfl rfl ?_
                refine x_goto (tgt := 99) C dX7_bestRoot_94 (by decide) ?_
                refine x_istore (pc' := 101) (L' := [some (.ref h), none, some (.int (f_X7_top S a1)), some (.int (nI i5_26)), some (.int 1000000000), some (.int (nI i5_26)), some (.int 1000000000)]) C dX7_bestRoot_99 rfl (Nat.le_of_ble_eq_true rfl) rfl ?_
                refine x_iinc (pc' := 104) (v := (nI (i5_26 + 1))) (L' := [some (.ref h), none, some (.int (f_X7_top S a1)), some (.int (nI i5_26)), some (.int 1000000000), some (.int (nI (i5_26 + 1))), some (.int 1000000000)]) C dX7_bestRoot_101 rfl rfl (nI_add i5_26 1) (Nat.le_of_ble_eq_true rfl) rfl ?_
                refine x_goto (tgt := 26) C dX7_bestRoot_104 (by decide) ?_
                refine x_forget (L' := [some (.ref h), none, some (.int (f_X7_top S a1)), some (.int (nI i5_26)), some (.int 1000000000), some (.int (nI (i5_26 + 1))), none]) [0, 1, 2, 3, 4] rfl rfl ?_
                exact ih26 S_26 (nI i5_26) 1000000000 (i5_26 + 1) (by omega) (by omega) hRES hok
          · rw [if_pos c6] at hRES
            replace hok := hok.1 c6
            refine x_aload_n (pc' := 49) C dX7_bestRoot_48 rfl rfl rfl ?_
            refine x_iload (pc' := 51) C dX7_bestRoot_49 rfl rfl ?_
            obtain ⟨hn10, hok⟩ := hok
            refine x_RV (st := []) (st2 := [.int (f_X7_top S_26 (nI i5_26))]) (pc' := 54) C (c_X7_top (kl k) (kg k) h ad S_26 (nI i5_26) hn10) cw_X7_47 ok_X7_top rfl (by decide) 0 rfl rfl [0, 1, 2, 3, 4, 5, 6] rfl rfl rfl (Nat.le_of_ble_eq_true rfl) (Nat.zero_le _) (Nat.zero_le _) rfl dX7_bestRoot_51 rfl rfl ?_
            refine x_iload_n (pc' := 55) C dX7_bestRoot_54 rfl rfl rfl ?_
            refine x_icmp_ne (tgt := 67) (pc' := 58) C dX7_bestRoot_55 (by decide) rfl (fun c11 => ?_) (fun c11 => ?_)
            · rw [if_neg c11] at hRES
              replace hok := hok.2 c11
              refine x_ldci (v := 1000000000) (pc' := 69) C kn_X7_194 dX7_bestRoot_67 rfl ?_
              refine x_istore (pc' := 71) (L' := [some (.ref h), none, some (.int (f_X7_top S a1)), some (.int x3_26), some (.int x4_26), some (.int (nI i5_26)), some (.int 1000000000)]) C dX7_bestRoot_69 rfl (Nat.le_of_ble_eq_true rfl) rfl ?_
              refine x_iload (pc' := 73) C dX7_bestRoot_71 rfl rfl ?_
              refine x_iload (pc' := 75) C dX7_bestRoot_73 rfl rfl ?_
              refine x_icmp_ge (tgt := 83) (pc' := 78) C dX7_bestRoot_75 (by decide) rfl (fun c12 => ?_) (fun c12 => ?_)
              · rw [if_neg c12] at hRES
                replace hok := hok.2 c12
                refine x_iload_n (pc' := 84) C dX7_bestRoot_83 rfl rfl rfl ?_
                refine x_istore_n (pc' := 85) (L' := [some (.ref h), none, some (.int (f_X7_top S a1)), some (.int x3_26), some (.int x4_26), some (.int (nI i5_26)), some (.int 1000000000)]) C dX7_bestRoot_84 rfl rfl (Nat.le_of_ble_eq_true rfl) rfl ?_
                refine x_iload (pc' := 87) C dX7_bestRoot_85 rfl rfl ?_
                refine x_iload (pc' := 89) C dX7_bestRoot_87 rfl rfl ?_
                refine x_icmp_ge (tgt := 97) (pc' := 92) C dX7_bestRoot_89 (by decide) rfl (fun c13 => ?_) (fun c13 => ?_)
                · refine x_iload (pc' := 99) C dX7_bestRoot_97 rfl rfl ?_
                  refine x_istore (pc' := 101) (L' := [some (.ref h), none, some (.int (f_X7_top S a1)), some (.int x3_26), some (.int x4_26), some (.int (nI i5_26)), some (.int 1000000000)]) C dX7_bestRoot_99 rfl (Nat.le_of_ble_eq_true rfl) rfl ?_
                  refine x_iinc (pc' := 104) (v := (nI (i5_26 + 1))) (L' := [some (.ref h), none, some (.int (f_X7_top S a1)), some (.int x3_26), some (.int x4_26), some (.int (nI (i5_26 + 1))), some (.int 1000000000)]) C dX7_bestRoot_101 rfl rfl (nI_add i5_26 1) (Nat.le_of_ble_eq_true rfl) rfl ?_
                  refine x_goto (tgt := 26) C dX7_bestRoot_104 (by decide) ?_
                  refine x_forget (L' := [some (.ref h), none, some (.int (f_X7_top S a1)), some (.int x3_26), some (.int x4_26), some (.int (nI (i5_26 + 1))), none]) [0, 1, 2, 3, 4] rfl rfl ?_
                  exact ih26 S_26 x3_26 x4_26 (i5_26 + 1) (by omega) (by omega) hRES hok
                · exact absurd c13 c12
              · rw [if_pos c12] at hRES
                replace hok := hok.1 c12
                refine x_iload (pc' := 80) C dX7_bestRoot_78 rfl rfl ?_
                refine x_goto (tgt := 84) C dX7_bestRoot_80 (by decide) ?_
                refine x_istore_n (pc' := 85) (L' := [some (.ref h), none, some (.int (f_X7_top S a1)), some (.int (nI i5_26)), some (.int x4_26), some (.int (nI i5_26)), some (.int 1000000000)]) C dX7_bestRoot_84 rfl rfl (Nat.le_of_ble_eq_true rfl) rfl ?_
                refine x_iload (pc' := 87) C dX7_bestRoot_85 rfl rfl ?_
                refine x_iload (pc' := 89) C dX7_bestRoot_87 rfl rfl ?_
                refine x_icmp_ge (tgt := 97) (pc' := 92) C dX7_bestRoot_89 (by decide) rfl (fun c14 => ?_) (fun c14 => ?_)
                · exact absurd c12 c14
                · refine x_iload (pc' := 94) C dX7_bestRoot_92 rfl rfl ?_
                  refine x_goto (tgt := 99) C dX7_bestRoot_94 (by decide) ?_
                  refine x_istore (pc' := 101) (L' := [some (.ref h), none, some (.int (f_X7_top S a1)), some (.int (nI i5_26)), some (.int 1000000000), some (.int (nI i5_26)), some (.int 1000000000)]) C dX7_bestRoot_99 rfl (Nat.le_of_ble_eq_true rfl) rfl ?_
                  refine x_iinc (pc' := 104) (v := (nI (i5_26 + 1))) (L' := [some (.ref h), none, some (.int (f_X7_top S a1)), some (.int (nI i5_26)), some (.int 1000000000), some (.int (nI (i5_26 + 1))), some (.int 1000000000)]) C dX7_bestRoot_101 rfl rfl (nI_add i5_26 1) (Nat.le_of_ble_eq_true rfl) rfl ?_
                  refine x_goto (tgt := 26) C dX7_bestRoot_104 (by decide) ?_
                  refine x_forget (L' := [some (.ref h), none, some (.int (f_X7_top S a1)), some (.int (nI i5_26)), some (.int 1000000000), some (.int (nI (i5_26 + 1))), none]) [0, 1, 2, 3, 4] rfl rfl ?_
                  exact ih26 S_26 (nI i5_26) 1000000000 (i5_26 + 1) (by omega) (by omega) hRES hok
            · rw [if_pos c11] at hRES
              replace hok := hok.1 c11
              refine x_aload_n (pc' := 59) C dX7_bestRoot_58 rfl rfl rfl ?_
              refine x_iload (pc' := 61) C dX7_bestRoot_59 rfl rfl ?_
              obtain ⟨hn15, hok⟩ := hok
              obtain ⟨z16, ez16⟩ : ∃ z, z = (f_X7_costOf S_26 (nI i5_26)) := ⟨_, rfl⟩
              replace hRES := bd hRES z16 ez16
              replace hok := bdP hok z16 ez16
              have hc := c_X7_costOf (kl k) (kg k) h ad S_26 (nI i5_26) hn15
              rw [← ez16] at hc
              refine x_WV (st := []) (st2 := [.int z16.1]) (pc' := 64) C B hc cw_X7_191 ok_X7_costOf rfl (by decide) 0 rfl rfl [0, 1, 2, 3, 4, 5, 6] [] [0, 1, 2, 3, 4, 5, 6] (wMo (kg k) h ad z16.2) rfl rfl rfl rfl (by decide) rfl rfl rfl (Nat.le_of_ble_eq_true rfl) (Nat.zero_le _) (Nat.zero_le _) rfl dX7_bestRoot_61 rfl rfl ?_
              refine x_goto (tgt := 69) C dX7_bestRoot_64 (by decide) ?_
              refine x_istore (pc' := 71) (L' := [some (.ref h), none, some (.int (f_X7_top S a1)), some (.int x3_26), some (.int x4_26), some (.int (nI i5_26)), some (.int z16.1)]) C dX7_bestRoot_69 rfl (Nat.le_of_ble_eq_true rfl) rfl ?_
              refine x_iload (pc' := 73) C dX7_bestRoot_71 rfl rfl ?_
              refine x_iload (pc' := 75) C dX7_bestRoot_73 rfl rfl ?_
              refine x_icmp_ge (tgt := 83) (pc' := 78) C dX7_bestRoot_75 (by decide) rfl (fun c17 => ?_) (fun c17 => ?_)
              · rw [if_neg c17] at hRES
                replace hok := hok.2 c17
                refine x_iload_n (pc' := 84) C dX7_bestRoot_83 rfl rfl rfl ?_
                refine x_istore_n (pc' := 85) (L' := [some (.ref h), none, some (.int (f_X7_top S a1)), some (.int x3_26), some (.int x4_26), some (.int (nI i5_26)), some (.int z16.1)]) C dX7_bestRoot_84 rfl rfl (Nat.le_of_ble_eq_true rfl) rfl ?_
                refine x_iload (pc' := 87) C dX7_bestRoot_85 rfl rfl ?_
                refine x_iload (pc' := 89) C dX7_bestRoot_87 rfl rfl ?_
                refine x_icmp_ge (tgt := 97) (pc' := 92) C dX7_bestRoot_89 (by decide) rfl (fun c18 => ?_) (fun c18 => ?_)
                · refine x_iload (pc' := 99) C dX7_bestRoot_97 rfl rfl ?_
                  refine x_istore (pc' := 101) (L' := [some (.ref h), none, some (.int (f_X7_top S a1)), some (.int x3_26), some (.int x4_26), some (.int (nI i5_26)), some (.int z16.1)]) C dX7_bestRoot_99 rfl (Nat.le_of_ble_eq_true rfl) rfl ?_
                  refine x_iinc (pc' := 104) (v := (nI (i5_26 + 1))) (L' := [some (.ref h), none, some (.int (f_X7_top S a1)), some (.int x3_26), some (.int x4_26), some (.int (nI (i5_26 + 1))), some (.int z16.1)]) C dX7_bestRoot_101 rfl rfl (nI_add i5_26 1) (Nat.le_of_ble_eq_true rfl) rfl ?_
                  refine x_goto (tgt := 26) C dX7_bestRoot_104 (by decide) ?_
                  refine x_forget (L' := [some (.ref h), none, some (.int (f_X7_top S a1)), some (.int x3_26), some (.int x4_26), some (.int (nI (i5_26 + 1))), none]) [0, 1, 2, 3, 4] rfl rfl ?_
                  exact ih26 z16.2 x3_26 x4_26 (i5_26 + 1) (by omega) (by omega) hRES hok
                · exact absurd c18 c17
              · rw [if_pos c17] at hRES
                replace hok := hok.1 c17
                refine x_iload (pc' := 80) C dX7_bestRoot_78 rfl rfl ?_
                refine x_goto (tgt := 84) C dX7_bestRoot_80 (by decide) ?_
                refine x_istore_n (pc' := 85) (L' := [some (.ref h), none, some (.int (f_X7_top S a1)), some (.int (nI i5_26)), some (.int x4_26), some (.int (nI i5_26)), some (.int z16.1)]) C dX7_bestRoot_84 rfl rfl (Nat.le_of_ble_eq_true rfl) rfl ?_
                refine x_iload (pc' := 87) C dX7_bestRoot_85 rfl rfl ?_
                refine x_iload (pc' := 89) C dX7_bestRoot_87 rfl rfl ?_
                refine x_icmp_ge (tgt := 97) (pc' := 92) C dX7_bestRoot_89 (by decide) rfl (fun c19 => ?_) (fun c19 => ?_)
                · exact absurd c17 c19
                · refine x_iload (pc' := 94) C dX7_bestRoot_92 rfl rfl ?_
                  refine x_goto (tgt := 99) C dX7_bestRoot_94 (by decide) ?_
                  refine x_istore (pc' := 101) (L' := [some (.ref h), none, some (.int (f_X7_top S a1)), some (.int (nI i5_26)), some (.int z16.1), some (.int (nI i5_26)), some (.int z16.1)]) C dX7_bestRoot_99 rfl (Nat.le_of_ble_eq_true rfl) rfl ?_
                  refine x_iinc (pc' := 104) (v := (nI (i5_26 + 1))) (L' := [some (.ref h), none, some (.int (f_X7_top S a1)), some (.int (nI i5_26)), some (.int z16.1), some (.int (nI (i5_26 + 1))), some (.int z16.1)]) C dX7_bestRoot_101 rfl rfl (nI_add i5_26 1) (Nat.le_of_ble_eq_true rfl) rfl ?_
                  refine x_goto (tgt := 26) C dX7_bestRoot_104 (by decide) ?_
                  refine x_forget (L' := [some (.ref h), none, some (.int (f_X7_top S a1)), some (.int (nI i5_26)), some (.int z16.1), some (.int (nI (i5_26 + 1))), none]) [0, 1, 2, 3, 4] rfl rfl ?_
                  exact ih26 z16.2 (nI i5_26) z16.1 (i5_26 + 1) (by omega) (by omega) hRES hok
    refine x_forget (L' := [some (.ref h), none, some (.int (f_X7_top S a1)), some (.int (-5)), some (.int 1000000000), some (.int 0), none]) [0, 2, 3, 4, 5] rfl rfl ?_
    exact loop26 25 S (-5) 1000000000 0 (by omega) (by omega) hRES hok
  · rw [if_neg c2] at hRES
    replace hok := hok.2 c2
    refine x_iconst (v := (-1)) (pc' := 9) C dX7_bestRoot_8 rfl (by decide) ?_
    exact x_iret C (Nat.zero_le _) (Nat.zero_le _) dX7_bestRoot_9 ⟨by rw [hRES], by rw [hRES]⟩

def f_X7_ifCut (S : CS) (a1 : Int32) : Int32 := (if (f_X7_isVersion S a1) = true then (if a1 = 0 then (-4) else (if (f_X7_hangs S a1) = true then ((f_X7_room S) + (7 - (2 * (f_X7_unlikeCells S a1 ((S.2 0) ((f_X7_of a1 1)).toNatClampNeg))))) else ((f_X7_room S) + (-(7 - (2 * (f_X7_unlikeCells S a1 ((S.2 0) ((f_X7_of a1 1)).toNatClampNeg)))))))) else (-1))
def o_X7_ifCut (S : CS) (a1 : Int32) : Prop := ((o_X7_isVersion S a1) ∧ (((f_X7_isVersion S a1) = true → ((a1 = 0 → True) ∧ (¬ (a1 = 0) → (vp_in (f_X7_of a1 1) 318 ∧ ((o_X7_unlikeCells S a1 ((S.2 0) ((f_X7_of a1 1)).toNatClampNeg)) ∧ ((o_X7_room S) ∧ ((o_X7_hangs S a1) ∧ (((f_X7_hangs S a1) = true → True) ∧ (¬ (f_X7_hangs S a1) = true → True))))))))) ∧ (¬ (f_X7_isVersion S a1) = true → True)))
set_option maxRecDepth 100000 in
set_option maxHeartbeats 8000000 in
theorem c_X7_ifCut (l : Launch) (g : GT) (h : Nat) (ad : Nat → Nat) (S : CS) (a1 : Int32) (hok : o_X7_ifCut S a1) : CR l yX7_ifCut (.code yX7_ifCut cX7_ifCut 3 (some .int)) 3 g [.ref h, .int a1] (wMo g h ad S) (some (.int (f_X7_ifCut S a1))) := by
  obtain ⟨RES, hRES⟩ : ∃ z, z = (f_X7_ifCut S a1) := ⟨_, rfl⟩
  rw [← hRES]
  unfold f_X7_ifCut at hRES
  unfold o_X7_ifCut at hok
  refine CRx.of (nL := 3) (ret := (some .int)) (own := RX7) (cc := cX7_ifCut) rfl (by decide) rfl (List.forall_mem_cons.mpr ⟨rfl, (List.forall_mem_cons.mpr ⟨rfl, (fun _ h => absurd h List.not_mem_nil)⟩)⟩) (Nat.le_of_ble_eq_true rfl) ?_
  intro k C hkl hkg
  subst hkl; subst hkg
  refine x_loc2 (L' := [some (.ref h), some (.int a1), none]) rfl ?_
  refine x_aload_n (pc' := 1) C dX7_ifCut_0 rfl rfl rfl ?_
  refine x_iload_n (pc' := 2) C dX7_ifCut_1 rfl rfl rfl ?_
  obtain ⟨hn1, hok⟩ := hok
  refine x_RV (st := []) (st2 := [.int (bI (f_X7_isVersion S a1))]) (pc' := 5) C (c_X7_isVersion (kl k) (kg k) h ad S a1 hn1) cw_X7_72 ok_X7_isVersion rfl (by decide) 0 rfl rfl [0, 1, 2, 3, 4, 5, 6] rfl rfl rfl (Nat.le_of_ble_eq_true rfl) (Nat.zero_le _) (Nat.zero_le _) rfl dX7_ifCut_2 rfl rfl ?_
  refine x_ifB_ne (tgt := 10) (pc' := 8) C dX7_ifCut_5 (by decide) rfl (fun c2 => ?_) (fun c2 => ?_)
  · rw [if_pos c2] at hRES
    replace hok := hok.1 c2
    refine x_iload_n (pc' := 11) C dX7_ifCut_10 rfl rfl rfl ?_
    refine x_if_ne (tgt := 17) (pc' := 14) C dX7_ifCut_11 (by decide) rfl (fun c3 => ?_) (fun c3 => ?_)
    · rw [if_neg c3] at hRES
      replace hok := hok.2 c3
      refine x_bipush (v := 7) (pc' := 19) C dX7_ifCut_17 rfl (by decide) ?_
      refine x_iconst (v := 2) (pc' := 20) C dX7_ifCut_19 rfl (by decide) ?_
      refine x_aload_n (pc' := 21) C dX7_ifCut_20 rfl rfl rfl ?_
      refine x_iload_n (pc' := 22) C dX7_ifCut_21 rfl rfl rfl ?_
      refine x_aload_n (pc' := 23) C dX7_ifCut_22 rfl rfl rfl ?_
      refine x_get (pc' := 26) (v := .ref (ad 0)) C 0 0 inBX7 rfl rfl (by decide) fl_X7_7 rfl rfl dX7_ifCut_23 rfl ?_
      refine x_iload_n (pc' := 27) C dX7_ifCut_26 rfl rfl rfl ?_
      refine x_iconst (v := 1) (pc' := 28) C dX7_ifCut_27 rfl (by decide) ?_
      refine x_RS (st := [.ref (ad 0), .int a1, .ref h, .int 2, .int 7]) (st2 := [.int (f_X7_of a1 1), .ref (ad 0), .int a1, .ref h, .int 2, .int 7]) (pc' := 31) C (c_X7_of (kl k) (kg k) a1 1) cw_X7_32 ok_X7_of (by decide) [] rfl rfl rfl (Nat.le_of_ble_eq_true rfl) (Nat.zero_le _) (Nat.zero_le _) rfl dX7_ifCut_28 rfl rfl ?_
      obtain ⟨hn4, hok⟩ := hok
      refine x_iald (pc' := 32) (f := S.2 0) (v := ((S.2 0) ((f_X7_of a1 1)).toNatClampNeg)) C 1 rfl hn4 rfl dX7_ifCut_31 rfl ?_
      obtain ⟨hn5, hok⟩ := hok
      refine x_RV (st := [.int 2, .int 7]) (st2 := [.int (f_X7_unlikeCells S a1 ((S.2 0) ((f_X7_of a1 1)).toNatClampNeg)), .int 2, .int 7]) (pc' := 35) C (c_X7_unlikeCells (kl k) (kg k) h ad S a1 ((S.2 0) ((f_X7_of a1 1)).toNatClampNeg) hn5) cw_X7_61 ok_X7_unlikeCells rfl (by decide) 0 rfl rfl [0, 1, 2, 3, 4, 5, 6] rfl rfl rfl (Nat.le_of_ble_eq_true rfl) (Nat.zero_le _) (Nat.zero_le _) rfl dX7_ifCut_32 rfl rfl ?_
      refine x_imul (pc' := 36) (v := (2 * (f_X7_unlikeCells S a1 ((S.2 0) ((f_X7_of a1 1)).toNatClampNeg)))) C dX7_ifCut_35 rfl rfl ?_
      refine x_isub (pc' := 37) (v := (7 - (2 * (f_X7_unlikeCells S a1 ((S.2 0) ((f_X7_of a1 1)).toNatClampNeg))))) C dX7_ifCut_36 rfl rfl ?_
      refine x_istore_n (pc' := 38) (L' := [some (.ref h), some (.int a1), some (.int (7 - (2 * (f_X7_unlikeCells S a1 ((S.2 0) ((f_X7_of a1 1)).toNatClampNeg)))))]) C dX7_ifCut_37 rfl rfl (Nat.le_of_ble_eq_true rfl) rfl ?_
      refine x_aload_n (pc' := 39) C dX7_ifCut_38 rfl rfl rfl ?_
      obtain ⟨hn6, hok⟩ := hok
      refine x_RV (st := []) (st2 := [.int (f_X7_room S)]) (pc' := 42) C (c_X7_room (kl k) (kg k) h ad S hn6) cw_X7_195 ok_X7_room rfl (by decide) 0 rfl rfl [0, 1, 2, 3, 4, 5, 6] rfl rfl rfl (Nat.le_of_ble_eq_true rfl) (Nat.zero_le _) (Nat.zero_le _) rfl dX7_ifCut_39 rfl rfl ?_
      refine x_aload_n (pc' := 43) C dX7_ifCut_42 rfl rfl rfl ?_
      refine x_iload_n (pc' := 44) C dX7_ifCut_43 rfl rfl rfl ?_
      obtain ⟨hn7, hok⟩ := hok
      refine x_RV (st := [.int (f_X7_room S)]) (st2 := [.int (bI (f_X7_hangs S a1)), .int (f_X7_room S)]) (pc' := 47) C (c_X7_hangs (kl k) (kg k) h ad S a1 hn7) cw_X7_43 ok_X7_hangs rfl (by decide) 0 rfl rfl [0, 1, 2, 3, 4, 5, 6] rfl rfl rfl (Nat.le_of_ble_eq_true rfl) (Nat.zero_le _) (Nat.zero_le _) rfl dX7_ifCut_44 rfl rfl ?_
      refine x_ifB_eq (tgt := 54) (pc' := 50) C dX7_ifCut_47 (by decide) rfl (fun c8 => ?_) (fun c8 => ?_)
      · rw [if_neg c8] at hRES
        replace hok := hok.2 c8
        refine x_iload_n (pc' := 55) C dX7_ifCut_54 rfl rfl rfl ?_
        refine x_ineg (pc' := 56) (v := (-(7 - (2 * (f_X7_unlikeCells S a1 ((S.2 0) ((f_X7_of a1 1)).toNatClampNeg)))))) C dX7_ifCut_55 rfl rfl ?_
        refine x_iadd (pc' := 57) (v := ((f_X7_room S) + (-(7 - (2 * (f_X7_unlikeCells S a1 ((S.2 0) ((f_X7_of a1 1)).toNatClampNeg))))))) C dX7_ifCut_56 rfl rfl ?_
        exact x_iret C (Nat.zero_le _) (Nat.zero_le _) dX7_ifCut_57 (by rw [hRES])
      · rw [if_pos c8] at hRES
        replace hok := hok.1 c8
        refine x_iload_n (pc' := 51) C dX7_ifCut_50 rfl rfl rfl ?_
        refine x_goto (tgt := 56) C dX7_ifCut_51 (by decide) ?_
        refine x_iadd (pc' := 57) (v := ((f_X7_room S) + (7 - (2 * (f_X7_unlikeCells S a1 ((S.2 0) ((f_X7_of a1 1)).toNatClampNeg)))))) C dX7_ifCut_56 rfl rfl ?_
        exact x_iret C (Nat.zero_le _) (Nat.zero_le _) dX7_ifCut_57 (by rw [hRES])
    · rw [if_pos c3] at hRES
      replace hok := hok.1 c3
      refine x_bipush (v := (-4)) (pc' := 16) C dX7_ifCut_14 rfl (by decide) ?_
      exact x_iret C (Nat.zero_le _) (Nat.zero_le _) dX7_ifCut_16 (by rw [hRES])
  · rw [if_neg c2] at hRES
    replace hok := hok.2 c2
    refine x_iconst (v := (-1)) (pc' := 9) C dX7_ifCut_8 rfl (by decide) ?_
    exact x_iret C (Nat.zero_le _) (Nat.zero_le _) dX7_ifCut_9 (by rw [hRES])

def k_X7_mostSteps_57 (S_57 : CS) (x1_57 : Int32) : Int32 × CS := (x1_57, S_57)
def ok_X7_mostSteps_57 (S_57 : CS) (x1_57 : Int32) : Prop := True
def l_X7_mostSteps_4 : Nat → CS → Int32 → Nat → Int32 × CS
  | 0, _, _, _ => (0, dfCS)
  | n4 + 1, S_4, x1_4, i2_4 => (if i2_4 < 24 then (if ((S_4.2 0) ((f_X7_of (nI i2_4) 0)).toNatClampNeg) = 1 then (bind1 (f_X7_layWay S_4 (f_X7_rootOf S_4 (nI i2_4)) (nI i2_4)) (fun z6 => (if x1_4 < z6.1 11 then (l_X7_mostSteps_4 n4 z6 (z6.1 11) (i2_4 + 1)) else (l_X7_mostSteps_4 n4 z6 x1_4 (i2_4 + 1))))) else (l_X7_mostSteps_4 n4 S_4 x1_4 (i2_4 + 1))) else (k_X7_mostSteps_57 S_4 x1_4))
def ol_X7_mostSteps_4 : Nat → CS → Int32 → Nat → Prop
  | 0, _, _, _ => True
  | n4 + 1, S_4, x1_4, i2_4 => ((i2_4 < 24 → (vp_in (f_X7_of (nI i2_4) 0) 318 ∧ ((((S_4.2 0) ((f_X7_of (nI i2_4) 0)).toNatClampNeg) = 1 → ((o_X7_rootOf S_4 (nI i2_4)) ∧ ((o_X7_layWay S_4 (f_X7_rootOf S_4 (nI i2_4)) (nI i2_4)) ∧ (bind1 (f_X7_layWay S_4 (f_X7_rootOf S_4 (nI i2_4)) (nI i2_4)) (fun z6 => ((x1_4 < z6.1 11 → (ol_X7_mostSteps_4 n4 z6 (z6.1 11) (i2_4 + 1))) ∧ (¬ (x1_4 < z6.1 11) → (ol_X7_mostSteps_4 n4 z6 x1_4 (i2_4 + 1))))))))) ∧ (¬ ((S_4.2 0) ((f_X7_of (nI i2_4) 0)).toNatClampNeg) = 1 → (ol_X7_mostSteps_4 n4 S_4 x1_4 (i2_4 + 1)))))) ∧ (¬ (i2_4 < 24) → (ok_X7_mostSteps_57 S_4 x1_4)))
def f_X7_mostSteps (S : CS) : Int32 × CS := (l_X7_mostSteps_4 25 S 0 0)
def o_X7_mostSteps (S : CS) : Prop := (ol_X7_mostSteps_4 25 S 0 0)
set_option maxRecDepth 100000 in
set_option maxHeartbeats 8000000 in
theorem c_X7_mostSteps (l : Launch) (g : GT) (h : Nat) (ad : Nat → Nat) (S : CS) (hok : o_X7_mostSteps S) : CW l yX7_mostSteps (.code yX7_mostSteps cX7_mostSteps 3 (some .int)) 4 g [.ref h] (wMo g h ad S) (some (.int (f_X7_mostSteps S).1)) (wMo g h ad (f_X7_mostSteps S).2) := by
  obtain ⟨RES, hRES⟩ : ∃ z, z = (f_X7_mostSteps S) := ⟨_, rfl⟩
  rw [← hRES]
  unfold f_X7_mostSteps at hRES
  unfold o_X7_mostSteps at hok
  refine CWx.of (nL := 3) (ret := (some .int)) (own := RX7) (cc := cX7_mostSteps) rfl (by decide) rfl (List.forall_mem_cons.mpr ⟨rfl, (fun _ h => absurd h List.not_mem_nil)⟩) (Nat.le_of_ble_eq_true rfl) ?_
  intro k C B hin hkl hkg
  subst hkl; subst hkg
  refine x_loc2 (L' := [some (.ref h), none, none]) rfl ?_
  refine x_iconst (v := 0) (pc' := 1) C dX7_mostSteps_0 rfl (by decide) ?_
  refine x_istore_n (pc' := 2) (L' := [some (.ref h), some (.int 0), none]) C dX7_mostSteps_1 rfl rfl (Nat.le_of_ble_eq_true rfl) rfl ?_
  refine x_iconst (v := 0) (pc' := 3) C dX7_mostSteps_2 rfl (by decide) ?_
  refine x_istore_n (pc' := 4) (L' := [some (.ref h), some (.int 0), some (.int 0)]) C dX7_mostSteps_3 rfl rfl (Nat.le_of_ble_eq_true rfl) rfl ?_
  have cont57 : ∀ (S_57 : CS) (x1_57 : Int32), RES = k_X7_mostSteps_57 S_57 x1_57 → ok_X7_mostSteps_57 S_57 x1_57 → X k 0 0 (wMo (kg k) h ad S_57) 57 [none, some (.int x1_57), none] [] := by
    intro S_57 x1_57 hRES hok
    unfold k_X7_mostSteps_57 at hRES
    unfold ok_X7_mostSteps_57 at hok
    refine x_iload_n (pc' := 58) C dX7_mostSteps_57 rfl rfl rfl ?_
    exact x_iret C (Nat.zero_le _) (Nat.zero_le _) dX7_mostSteps_58 ⟨by rw [hRES], by rw [hRES]⟩
  have loop4 : ∀ (n4 : Nat) (S_4 : CS) (x1_4 : Int32) (i2_4 : Nat), i2_4 ≤ 24 → 24 < i2_4 + n4 → RES = l_X7_mostSteps_4 n4 S_4 x1_4 i2_4 → ol_X7_mostSteps_4 n4 S_4 x1_4 i2_4 → X k 0 0 (wMo (kg k) h ad S_4) 4 [some (.ref h), some (.int x1_4), some (.int (nI i2_4))] [] := by
    intro n4
    induction n4 with
    | zero =>
      intro S_4 x1_4 i2_4 hb4 hf4 hRES hok
      omega
    | succ n4 ih4 =>
      intro S_4 x1_4 i2_4 hb4 hf4 hRES hok
      rw [l_X7_mostSteps_4] at hRES
      rw [ol_X7_mostSteps_4] at hok
      refine x_iload_n (pc' := 5) C dX7_mostSteps_4 rfl rfl rfl ?_
      refine x_bipush (v := 24) (pc' := 7) C dX7_mostSteps_5 rfl (by decide) ?_
      refine x_icmpN_ge (tgt := 57) (pc' := 10) C i2_4 24 dX7_mostSteps_7 (by decide) rfl (by omega) (by omega) (fun c1 => ?_) (fun c1 => ?_)
      · rw [if_neg c1] at hRES
        replace hok := hok.2 c1
        refine x_forget (L' := [none, some (.int x1_4), none]) [1] rfl rfl ?_
        exact cont57 S_4 x1_4 hRES hok
      · rw [if_pos c1] at hRES
        replace hok := hok.1 c1
        refine x_aload_n (pc' := 11) C dX7_mostSteps_10 rfl rfl rfl ?_
        refine x_get (pc' := 14) (v := .ref (ad 0)) C 0 0 inBX7 rfl rfl (by decide) fl_X7_7 rfl rfl dX7_mostSteps_11 rfl ?_
        refine x_iload_n (pc' := 15) C dX7_mostSteps_14 rfl rfl rfl ?_
        refine x_iconst (v := 0) (pc' := 16) C dX7_mostSteps_15 rfl (by decide) ?_
        refine x_RS (st := [.ref (ad 0)]) (st2 := [.int (f_X7_of (nI i2_4) 0), .ref (ad 0)]) (pc' := 19) C (c_X7_of (kl k) (kg k) (nI i2_4) 0) cw_X7_32 ok_X7_of (by decide) [] rfl rfl rfl (Nat.le_of_ble_eq_true rfl) (Nat.zero_le _) (Nat.zero_le _) rfl dX7_mostSteps_16 rfl rfl ?_
        obtain ⟨hn2, hok⟩ := hok
        refine x_iald (pc' := 20) (f := S_4.2 0) (v := ((S_4.2 0) ((f_X7_of (nI i2_4) 0)).toNatClampNeg)) C 1 rfl hn2 rfl dX7_mostSteps_19 rfl ?_
        refine x_iconst (v := 1) (pc' := 21) C dX7_mostSteps_20 rfl (by decide) ?_
        refine x_icmp_ne (tgt := 51) (pc' := 24) C dX7_mostSteps_21 (by decide) rfl (fun c3 => ?_) (fun c3 => ?_)
        · rw [if_neg c3] at hRES
          replace hok := hok.2 c3
          refine x_iinc (pc' := 54) (v := (nI (i2_4 + 1))) (L' := [some (.ref h), some (.int x1_4), some (.int (nI (i2_4 + 1)))]) C dX7_mostSteps_51 rfl rfl (nI_add i2_4 1) (Nat.le_of_ble_eq_true rfl) rfl ?_
          refine x_goto (tgt := 4) C dX7_mostSteps_54 (by decide) ?_
          exact ih4 S_4 x1_4 (i2_4 + 1) (by omega) (by omega) hRES hok
        · rw [if_pos c3] at hRES
          replace hok := hok.1 c3
          refine x_aload_n (pc' := 25) C dX7_mostSteps_24 rfl rfl rfl ?_
          refine x_aload_n (pc' := 26) C dX7_mostSteps_25 rfl rfl rfl ?_
          refine x_iload_n (pc' := 27) C dX7_mostSteps_26 rfl rfl rfl ?_
          obtain ⟨hn4, hok⟩ := hok
          refine x_RV (st := [.ref h]) (st2 := [.int (f_X7_rootOf S_4 (nI i2_4)), .ref h]) (pc' := 30) C (c_X7_rootOf (kl k) (kg k) h ad S_4 (nI i2_4) hn4) cw_X7_84 ok_X7_rootOf rfl (by decide) 0 rfl rfl [0, 1, 2, 3, 4, 5, 6] rfl rfl rfl (Nat.le_of_ble_eq_true rfl) (Nat.zero_le _) (Nat.zero_le _) rfl dX7_mostSteps_27 rfl rfl ?_
          refine x_iload_n (pc' := 31) C dX7_mostSteps_30 rfl rfl rfl ?_
          obtain ⟨hn5, hok⟩ := hok
          obtain ⟨z6, ez6⟩ : ∃ z, z = (f_X7_layWay S_4 (f_X7_rootOf S_4 (nI i2_4)) (nI i2_4)) := ⟨_, rfl⟩
          replace hRES := bd hRES z6 ez6
          replace hok := bdP hok z6 ez6
          have hc := c_X7_layWay (kl k) (kg k) h ad S_4 (f_X7_rootOf S_4 (nI i2_4)) (nI i2_4) hn5
          rw [← ez6] at hc
          refine x_WV (st := []) (st2 := []) (pc' := 34) C B hc cw_X7_64 ok_X7_layWay rfl (by decide) 0 rfl rfl [0, 1, 2, 3, 4, 5, 6] [] [0, 1, 2, 3, 4, 5, 6] (wMo (kg k) h ad z6) rfl rfl rfl rfl (by decide) rfl rfl rfl (Nat.le_of_ble_eq_true rfl) (Nat.zero_le _) (Nat.zero_le _) rfl dX7_mostSteps_31 rfl rfl ?_
          refine x_aload_n (pc' := 35) C dX7_mostSteps_34 rfl rfl rfl ?_
          refine x_get (pc' := 38) (v := .int (z6.1 11)) C 0 11 inBX7 rfl rfl (by decide) fl_X7_51 rfl rfl dX7_mostSteps_35 rfl ?_
          refine x_iload_n (pc' := 39) C dX7_mostSteps_38 rfl rfl rfl ?_
          refine x_icmp_le (tgt := 49) (pc' := 42) C dX7_mostSteps_39 (by decide) rfl (fun c7 => ?_) (fun c7 => ?_)
          · rw [if_neg c7] at hRES
            replace hok := hok.2 c7
            refine x_iload_n (pc' := 50) C dX7_mostSteps_49 rfl rfl rfl ?_
            refine x_istore_n (pc' := 51) (L' := [some (.ref h), some (.int x1_4), some (.int (nI i2_4))]) C dX7_mostSteps_50 rfl rfl (Nat.le_of_ble_eq_true rfl) rfl ?_
            refine x_iinc (pc' := 54) (v := (nI (i2_4 + 1))) (L' := [some (.ref h), some (.int x1_4), some (.int (nI (i2_4 + 1)))]) C dX7_mostSteps_51 rfl rfl (nI_add i2_4 1) (Nat.le_of_ble_eq_true rfl) rfl ?_
            refine x_goto (tgt := 4) C dX7_mostSteps_54 (by decide) ?_
            exact ih4 z6 x1_4 (i2_4 + 1) (by omega) (by omega) hRES hok
          · rw [if_pos c7] at hRES
            replace hok := hok.1 c7
            refine x_aload_n (pc' := 43) C dX7_mostSteps_42 rfl rfl rfl ?_
            refine x_get (pc' := 46) (v := .int (z6.1 11)) C 0 11 inBX7 rfl rfl (by decide) fl_X7_51 rfl rfl dX7_mostSteps_43 rfl ?_
            refine x_goto (tgt := 50) C dX7_mostSteps_46 (by decide) ?_
            refine x_istore_n (pc' := 51) (L' := [some (.ref h), some (.int (z6.1 11)), some (.int (nI i2_4))]) C dX7_mostSteps_50 rfl rfl (Nat.le_of_ble_eq_true rfl) rfl ?_
            refine x_iinc (pc' := 54) (v := (nI (i2_4 + 1))) (L' := [some (.ref h), some (.int (z6.1 11)), some (.int (nI (i2_4 + 1)))]) C dX7_mostSteps_51 rfl rfl (nI_add i2_4 1) (Nat.le_of_ble_eq_true rfl) rfl ?_
            refine x_goto (tgt := 4) C dX7_mostSteps_54 (by decide) ?_
            exact ih4 z6 (z6.1 11) (i2_4 + 1) (by omega) (by omega) hRES hok
  exact loop4 25 S 0 0 (by omega) (by omega) hRES hok

def k_X7_rows_97 (x1_97 : Int32) : Int32 := x1_97
def ok_X7_rows_97 (x1_97 : Int32) : Prop := True
def k_X7_rows_79 (rec_l_X7_rows_4 : Int32 → Nat → Int32) (x1_4 : Int32) (i2_4 : Nat) : Int32 := (rec_l_X7_rows_4 (x1_4 + 0) (i2_4 + 1))
def ok_X7_rows_79 (reo_l_X7_rows_4 : Int32 → Nat → Prop) (x1_4 : Int32) (i2_4 : Nat) : Prop := (reo_l_X7_rows_4 (x1_4 + 0) (i2_4 + 1))
def l_X7_rows_33 (rec_l_X7_rows_4 : Int32 → Nat → Int32) (x1_4 : Int32) (i2_4 : Nat) : Nat → Nat → Int32
  | 0, _ => 0
  | n33 + 1, i4_33 => (if i4_33 < i2_4 then (l_X7_rows_33 rec_l_X7_rows_4 x1_4 i2_4 n33 (i4_33 + 1)) else (k_X7_rows_79 rec_l_X7_rows_4 x1_4 i2_4))
def ol_X7_rows_33 (reo_l_X7_rows_4 : Int32 → Nat → Prop) (x1_4 : Int32) (i2_4 : Nat) : Nat → Nat → Prop
  | 0, _ => True
  | n33 + 1, i4_33 => ((i4_33 < i2_4 → (ol_X7_rows_33 reo_l_X7_rows_4 x1_4 i2_4 n33 (i4_33 + 1))) ∧ (¬ (i4_33 < i2_4) → (ok_X7_rows_79 reo_l_X7_rows_4 x1_4 i2_4)))
def k_X7_rows_79b (rec_l_X7_rows_4 : Int32 → Nat → Int32) (x1_4 : Int32) (i2_4 : Nat) (x3_79b : Int32) : Int32 := (if x3_79b = 0 then (rec_l_X7_rows_4 (x1_4 + 0) (i2_4 + 1)) else (rec_l_X7_rows_4 (x1_4 + 1) (i2_4 + 1)))
def ok_X7_rows_79b (reo_l_X7_rows_4 : Int32 → Nat → Prop) (x1_4 : Int32) (i2_4 : Nat) (x3_79b : Int32) : Prop := ((x3_79b = 0 → (reo_l_X7_rows_4 (x1_4 + 0) (i2_4 + 1))) ∧ (¬ (x3_79b = 0) → (reo_l_X7_rows_4 (x1_4 + 1) (i2_4 + 1))))
def l_X7_rows_33b (rec_l_X7_rows_4 : Int32 → Nat → Int32) (S : CS) (x1_4 : Int32) (i2_4 : Nat) : Nat → Int32 → Nat → Int32
  | 0, _, _ => 0
  | n33b + 1, x3_33b, i4_33b => (if i4_33b < i2_4 then (if x3_33b = 0 then (l_X7_rows_33b rec_l_X7_rows_4 S x1_4 i2_4 n33b 0 (i4_33b + 1)) else (if ((S.2 0) ((f_X7_of (nI i4_33b) 0)).toNatClampNeg) = 0 then (l_X7_rows_33b rec_l_X7_rows_4 S x1_4 i2_4 n33b 1 (i4_33b + 1)) else (if (f_X7_cellsUnlike S (nI i4_33b) (nI i2_4)) = 0 then (l_X7_rows_33b rec_l_X7_rows_4 S x1_4 i2_4 n33b 0 (i4_33b + 1)) else (l_X7_rows_33b rec_l_X7_rows_4 S x1_4 i2_4 n33b 1 (i4_33b + 1))))) else (k_X7_rows_79b rec_l_X7_rows_4 x1_4 i2_4 x3_33b))
def ol_X7_rows_33b (reo_l_X7_rows_4 : Int32 → Nat → Prop) (S : CS) (x1_4 : Int32) (i2_4 : Nat) : Nat → Int32 → Nat → Prop
  | 0, _, _ => True
  | n33b + 1, x3_33b, i4_33b => ((i4_33b < i2_4 → ((x3_33b = 0 → (ol_X7_rows_33b reo_l_X7_rows_4 S x1_4 i2_4 n33b 0 (i4_33b + 1))) ∧ (¬ (x3_33b = 0) → (vp_in (f_X7_of (nI i4_33b) 0) 318 ∧ ((((S.2 0) ((f_X7_of (nI i4_33b) 0)).toNatClampNeg) = 0 → (ol_X7_rows_33b reo_l_X7_rows_4 S x1_4 i2_4 n33b 1 (i4_33b + 1))) ∧ (¬ ((S.2 0) ((f_X7_of (nI i4_33b) 0)).toNatClampNeg) = 0 → ((o_X7_cellsUnlike S (nI i4_33b) (nI i2_4)) ∧ (((f_X7_cellsUnlike S (nI i4_33b) (nI i2_4)) = 0 → (ol_X7_rows_33b reo_l_X7_rows_4 S x1_4 i2_4 n33b 0 (i4_33b + 1))) ∧ (¬ (f_X7_cellsUnlike S (nI i4_33b) (nI i2_4)) = 0 → (ol_X7_rows_33b reo_l_X7_rows_4 S x1_4 i2_4 n33b 1 (i4_33b + 1))))))))))) ∧ (¬ (i4_33b < i2_4) → (ok_X7_rows_79b reo_l_X7_rows_4 x1_4 i2_4 x3_33b)))
def l_X7_rows_4 (S : CS) : Nat → Int32 → Nat → Int32
  | 0, _, _ => 0
  | n4 + 1, x1_4, i2_4 => (if i2_4 < 24 then (if ((S.2 0) ((f_X7_of (nI i2_4) 0)).toNatClampNeg) = 1 then (l_X7_rows_33b (fun x1_4 i2_4 => l_X7_rows_4 S n4 x1_4 i2_4) S x1_4 i2_4 (i2_4 + 1 - 0) 1 0) else (l_X7_rows_33 (fun x1_4 i2_4 => l_X7_rows_4 S n4 x1_4 i2_4) x1_4 i2_4 (i2_4 + 1 - 0) 0)) else (k_X7_rows_97 x1_4))
def ol_X7_rows_4 (S : CS) : Nat → Int32 → Nat → Prop
  | 0, _, _ => True
  | n4 + 1, x1_4, i2_4 => ((i2_4 < 24 → (vp_in (f_X7_of (nI i2_4) 0) 318 ∧ ((((S.2 0) ((f_X7_of (nI i2_4) 0)).toNatClampNeg) = 1 → (ol_X7_rows_33b (fun x1_4 i2_4 => ol_X7_rows_4 S n4 x1_4 i2_4) S x1_4 i2_4 (i2_4 + 1 - 0) 1 0)) ∧ (¬ ((S.2 0) ((f_X7_of (nI i2_4) 0)).toNatClampNeg) = 1 → (ol_X7_rows_33 (fun x1_4 i2_4 => ol_X7_rows_4 S n4 x1_4 i2_4) x1_4 i2_4 (i2_4 + 1 - 0) 0))))) ∧ (¬ (i2_4 < 24) → (ok_X7_rows_97 x1_4)))
def f_X7_rows (S : CS) : Int32 := (l_X7_rows_4 S 25 0 0)
def o_X7_rows (S : CS) : Prop := (ol_X7_rows_4 S 25 0 0)
set_option maxRecDepth 100000 in
set_option maxHeartbeats 8000000 in
theorem c_X7_rows (l : Launch) (g : GT) (h : Nat) (ad : Nat → Nat) (S : CS) (hok : o_X7_rows S) : CR l yX7_rows (.code yX7_rows cX7_rows 5 (some .int)) 2 g [.ref h] (wMo g h ad S) (some (.int (f_X7_rows S))) := by
  obtain ⟨RES, hRES⟩ : ∃ z, z = (f_X7_rows S) := ⟨_, rfl⟩
  rw [← hRES]
  unfold f_X7_rows at hRES
  unfold o_X7_rows at hok
  refine CRx.of (nL := 5) (ret := (some .int)) (own := RX7) (cc := cX7_rows) rfl (by decide) rfl (List.forall_mem_cons.mpr ⟨rfl, (fun _ h => absurd h List.not_mem_nil)⟩) (Nat.le_of_ble_eq_true rfl) ?_
  intro k C hkl hkg
  subst hkl; subst hkg
  refine x_loc2 (L' := [some (.ref h), none, none, none, none]) rfl ?_
  refine x_iconst (v := 0) (pc' := 1) C dX7_rows_0 rfl (by decide) ?_
  refine x_istore_n (pc' := 2) (L' := [some (.ref h), some (.int 0), none, none, none]) C dX7_rows_1 rfl rfl (Nat.le_of_ble_eq_true rfl) rfl ?_
  refine x_iconst (v := 0) (pc' := 3) C dX7_rows_2 rfl (by decide) ?_
  refine x_istore_n (pc' := 4) (L' := [some (.ref h), some (.int 0), some (.int 0), none, none]) C dX7_rows_3 rfl rfl (Nat.le_of_ble_eq_true rfl) rfl ?_
  have cont97 : ∀ (x1_97 : Int32), RES = k_X7_rows_97 x1_97 → ok_X7_rows_97 x1_97 → X k 0 0 (wMo (kg k) h ad S) 97 [none, some (.int x1_97), none, none, none] [] := by
    intro x1_97 hRES hok
    unfold k_X7_rows_97 at hRES
    unfold ok_X7_rows_97 at hok
    refine x_iload_n (pc' := 98) C dX7_rows_97 rfl rfl rfl ?_
    exact x_iret C (Nat.zero_le _) (Nat.zero_le _) dX7_rows_98 (by rw [hRES])
  have loop4 : ∀ (n4 : Nat) (x1_4 : Int32) (i2_4 : Nat), i2_4 ≤ 24 → 24 < i2_4 + n4 → RES = l_X7_rows_4 S n4 x1_4 i2_4 → ol_X7_rows_4 S n4 x1_4 i2_4 → X k 0 0 (wMo (kg k) h ad S) 4 [some (.ref h), some (.int x1_4), some (.int (nI i2_4)), none, none] [] := by
    intro n4
    induction n4 with
    | zero =>
      intro x1_4 i2_4 hb4 hf4 hRES hok
      omega
    | succ n4 ih4 =>
      intro x1_4 i2_4 hb4 hf4 hRES hok
      rw [l_X7_rows_4] at hRES
      rw [ol_X7_rows_4] at hok
      refine x_iload_n (pc' := 5) C dX7_rows_4 rfl rfl rfl ?_
      refine x_bipush (v := 24) (pc' := 7) C dX7_rows_5 rfl (by decide) ?_
      refine x_icmpN_ge (tgt := 97) (pc' := 10) C i2_4 24 dX7_rows_7 (by decide) rfl (by omega) (by omega) (fun c1 => ?_) (fun c1 => ?_)
      · rw [if_neg c1] at hRES
        replace hok := hok.2 c1
        refine x_forget (L' := [none, some (.int x1_4), none, none, none]) [1] rfl rfl ?_
        exact cont97 x1_4 hRES hok
      · rw [if_pos c1] at hRES
        replace hok := hok.1 c1
        refine x_aload_n (pc' := 11) C dX7_rows_10 rfl rfl rfl ?_
        refine x_get (pc' := 14) (v := .ref (ad 0)) C 0 0 inBX7 rfl rfl (by decide) fl_X7_7 rfl rfl dX7_rows_11 rfl ?_
        refine x_iload_n (pc' := 15) C dX7_rows_14 rfl rfl rfl ?_
        refine x_iconst (v := 0) (pc' := 16) C dX7_rows_15 rfl (by decide) ?_
        refine x_RS (st := [.ref (ad 0)]) (st2 := [.int (f_X7_of (nI i2_4) 0), .ref (ad 0)]) (pc' := 19) C (c_X7_of (kl k) (kg k) (nI i2_4) 0) cw_X7_32 ok_X7_of (by decide) [] rfl rfl rfl (Nat.le_of_ble_eq_true rfl) (Nat.zero_le _) (Nat.zero_le _) rfl dX7_rows_16 rfl rfl ?_
        obtain ⟨hn2, hok⟩ := hok
        refine x_iald (pc' := 20) (f := S.2 0) (v := ((S.2 0) ((f_X7_of (nI i2_4) 0)).toNatClampNeg)) C 1 rfl hn2 rfl dX7_rows_19 rfl ?_
        refine x_iconst (v := 1) (pc' := 21) C dX7_rows_20 rfl (by decide) ?_
        refine x_icmp_ne (tgt := 28) (pc' := 24) C dX7_rows_21 (by decide) rfl (fun c3 => ?_) (fun c3 => ?_)
        · rw [if_neg c3] at hRES
          replace hok := hok.2 c3
          refine x_iconst (v := 0) (pc' := 29) C dX7_rows_28 rfl (by decide) ?_
          refine x_istore_n (pc' := 30) (L' := [some (.ref h), some (.int x1_4), some (.int (nI i2_4)), some (.int 0), none]) C dX7_rows_29 rfl rfl (Nat.le_of_ble_eq_true rfl) rfl ?_
          refine x_iconst (v := 0) (pc' := 31) C dX7_rows_30 rfl (by decide) ?_
          refine x_istore (pc' := 33) (L' := [some (.ref h), some (.int x1_4), some (.int (nI i2_4)), some (.int 0), some (.int 0)]) C dX7_rows_31 rfl (Nat.le_of_ble_eq_true rfl) rfl ?_
          have cont79 : ∀ (_ : Unit), RES = k_X7_rows_79 (fun x1_4 i2_4 => l_X7_rows_4 S n4 x1_4 i2_4) x1_4 i2_4 → ok_X7_rows_79 (fun x1_4 i2_4 => ol_X7_rows_4 S n4 x1_4 i2_4) x1_4 i2_4 → X k 0 0 (wMo (kg k) h ad S) 79 [some (.ref h), some (.int x1_4), some (.int (nI i2_4)), some (.int 0), none] [] := by
            intro _ hRES hok
            unfold k_X7_rows_79 at hRES
            unfold ok_X7_rows_79 at hok
            refine x_iload_n (pc' := 80) C dX7_rows_79 rfl rfl rfl ?_
            refine x_iload_n (pc' := 81) C dX7_rows_80 rfl rfl rfl ?_
            refine x_if_eq (tgt := 88) (pc' := 84) C dX7_rows_81 (by decide) rfl (fun c4 => ?_) (fun c4 => absurd c4 (by decide))
            refine x_iconst (v := 0) (pc' := 89) C dX7_rows_88 rfl (by decide) ?_
            refine x_iadd (pc' := 90) (v := (x1_4 + 0)) C dX7_rows_89 rfl rfl ?_
            refine x_istore_n (pc' := 91) (L' := [some (.ref h), some (.int (x1_4 + 0)), some (.int (nI i2_4)), some (.int 0), none]) C dX7_rows_90 rfl rfl (Nat.le_of_ble_eq_true rfl) rfl ?_
            refine x_iinc (pc' := 94) (v := (nI (i2_4 + 1))) (L' := [some (.ref h), some (.int (x1_4 + 0)), some (.int (nI (i2_4 + 1))), some (.int 0), none]) C dX7_rows_91 rfl rfl (nI_add i2_4 1) (Nat.le_of_ble_eq_true rfl) rfl ?_
            refine x_goto (tgt := 4) C dX7_rows_94 (by decide) ?_
            refine x_forget (L' := [some (.ref h), some (.int (x1_4 + 0)), some (.int (nI (i2_4 + 1))), none, none]) [0, 1, 2] rfl rfl ?_
            exact ih4 (x1_4 + 0) (i2_4 + 1) (by omega) (by omega) hRES hok
          have loop33 : ∀ (n33 : Nat) (i4_33 : Nat), i4_33 ≤ i2_4 → i2_4 < i4_33 + n33 → RES = l_X7_rows_33 (fun x1_4 i2_4 => l_X7_rows_4 S n4 x1_4 i2_4) x1_4 i2_4 n33 i4_33 → ol_X7_rows_33 (fun x1_4 i2_4 => ol_X7_rows_4 S n4 x1_4 i2_4) x1_4 i2_4 n33 i4_33 → X k 0 0 (wMo (kg k) h ad S) 33 [some (.ref h), some (.int x1_4), some (.int (nI i2_4)), some (.int 0), some (.int (nI i4_33))] [] := by
            intro n33
            induction n33 with
            | zero =>
              intro i4_33 hb33 hf33 hRES hok
              omega
            | succ n33 ih33 =>
              intro i4_33 hb33 hf33 hRES hok
              rw [l_X7_rows_33] at hRES
              rw [ol_X7_rows_33] at hok
              refine x_iload (pc' := 35) C dX7_rows_33 rfl rfl ?_
              refine x_iload_n (pc' := 36) C dX7_rows_35 rfl rfl rfl ?_
              refine x_icmpN_ge (tgt := 79) (pc' := 39) C i4_33 i2_4 dX7_rows_36 (by decide) rfl (by omega) (by omega) (fun c5 => ?_) (fun c5 => ?_)
              · rw [if_neg c5] at hRES
                replace hok := hok.2 c5
                refine x_forget (L' := [some (.ref h), some (.int x1_4), some (.int (nI i2_4)), some (.int 0), none]) [0, 1, 2, 3] rfl rfl ?_
                exact cont79 () hRES hok
              · rw [if_pos c5] at hRES
                replace hok := hok.1 c5
                refine x_iload_n (pc' := 40) C dX7_rows_39 rfl rfl rfl ?_
                refine x_if_eq (tgt := 71) (pc' := 43) C dX7_rows_40 (by decide) rfl (fun c6 => ?_) (fun c6 => absurd c6 (by decide))
                refine x_iconst (v := 0) (pc' := 72) C dX7_rows_71 rfl (by decide) ?_
                refine x_istore_n (pc' := 73) (L' := [some (.ref h), some (.int x1_4), some (.int (nI i2_4)), some (.int 0), some (.int (nI i4_33))]) C dX7_rows_72 rfl rfl (Nat.le_of_ble_eq_true rfl) rfl ?_
                refine x_iinc (pc' := 76) (v := (nI (i4_33 + 1))) (L' := [some (.ref h), some (.int x1_4), some (.int (nI i2_4)), some (.int 0), some (.int (nI (i4_33 + 1)))]) C dX7_rows_73 rfl rfl (nI_add i4_33 1) (Nat.le_of_ble_eq_true rfl) rfl ?_
                refine x_goto (tgt := 33) C dX7_rows_76 (by decide) ?_
                exact ih33 (i4_33 + 1) (by omega) (by omega) hRES hok
          exact loop33 (i2_4 + 1 - 0) 0 (by omega) (by omega) hRES hok
        · rw [if_pos c3] at hRES
          replace hok := hok.1 c3
          refine x_iconst (v := 1) (pc' := 25) C dX7_rows_24 rfl (by decide) ?_
          refine x_goto (tgt := 29) C dX7_rows_25 (by decide) ?_
          refine x_istore_n (pc' := 30) (L' := [some (.ref h), some (.int x1_4), some (.int (nI i2_4)), some (.int 1), none]) C dX7_rows_29 rfl rfl (Nat.le_of_ble_eq_true rfl) rfl ?_
          refine x_iconst (v := 0) (pc' := 31) C dX7_rows_30 rfl (by decide) ?_
          refine x_istore (pc' := 33) (L' := [some (.ref h), some (.int x1_4), some (.int (nI i2_4)), some (.int 1), some (.int 0)]) C dX7_rows_31 rfl (Nat.le_of_ble_eq_true rfl) rfl ?_
          have cont79b : ∀ (x3_79b : Int32), RES = k_X7_rows_79b (fun x1_4 i2_4 => l_X7_rows_4 S n4 x1_4 i2_4) x1_4 i2_4 x3_79b → ok_X7_rows_79b (fun x1_4 i2_4 => ol_X7_rows_4 S n4 x1_4 i2_4) x1_4 i2_4 x3_79b → X k 0 0 (wMo (kg k) h ad S) 79 [some (.ref h), some (.int x1_4), some (.int (nI i2_4)), some (.int x3_79b), none] [] := by
            intro x3_79b hRES hok
            unfold k_X7_rows_79b at hRES
            unfold ok_X7_rows_79b at hok
            refine x_iload_n (pc' := 80) C dX7_rows_79 rfl rfl rfl ?_
            refine x_iload_n (pc' := 81) C dX7_rows_80 rfl rfl rfl ?_
            refine x_if_eq (tgt := 88) (pc' := 84) C dX7_rows_81 (by decide) rfl (fun c7 => ?_) (fun c7 => ?_)
            · rw [if_pos c7] at hRES
              replace hok := hok.1 c7
              refine x_iconst (v := 0) (pc' := 89) C dX7_rows_88 rfl (by decide) ?_
              refine x_iadd (pc' := 90) (v := (x1_4 + 0)) C dX7_rows_89 rfl rfl ?_
              refine x_istore_n (pc' := 91) (L' := [some (.ref h), some (.int (x1_4 + 0)), some (.int (nI i2_4)), some (.int x3_79b), none]) C dX7_rows_90 rfl rfl (Nat.le_of_ble_eq_true rfl) rfl ?_
              refine x_iinc (pc' := 94) (v := (nI (i2_4 + 1))) (L' := [some (.ref h), some (.int (x1_4 + 0)), some (.int (nI (i2_4 + 1))), some (.int x3_79b), none]) C dX7_rows_91 rfl rfl (nI_add i2_4 1) (Nat.le_of_ble_eq_true rfl) rfl ?_
              refine x_goto (tgt := 4) C dX7_rows_94 (by decide) ?_
              refine x_forget (L' := [some (.ref h), some (.int (x1_4 + 0)), some (.int (nI (i2_4 + 1))), none, none]) [0, 1, 2] rfl rfl ?_
              exact ih4 (x1_4 + 0) (i2_4 + 1) (by omega) (by omega) hRES hok
            · rw [if_neg c7] at hRES
              replace hok := hok.2 c7
              refine x_iconst (v := 1) (pc' := 85) C dX7_rows_84 rfl (by decide) ?_
              refine x_goto (tgt := 89) C dX7_rows_85 (by decide) ?_
              refine x_iadd (pc' := 90) (v := (x1_4 + 1)) C dX7_rows_89 rfl rfl ?_
              refine x_istore_n (pc' := 91) (L' := [some (.ref h), some (.int (x1_4 + 1)), some (.int (nI i2_4)), some (.int x3_79b), none]) C dX7_rows_90 rfl rfl (Nat.le_of_ble_eq_true rfl) rfl ?_
              refine x_iinc (pc' := 94) (v := (nI (i2_4 + 1))) (L' := [some (.ref h), some (.int (x1_4 + 1)), some (.int (nI (i2_4 + 1))), some (.int x3_79b), none]) C dX7_rows_91 rfl rfl (nI_add i2_4 1) (Nat.le_of_ble_eq_true rfl) rfl ?_
              refine x_goto (tgt := 4) C dX7_rows_94 (by decide) ?_
              refine x_forget (L' := [some (.ref h), some (.int (x1_4 + 1)), some (.int (nI (i2_4 + 1))), none, none]) [0, 1, 2] rfl rfl ?_
              exact ih4 (x1_4 + 1) (i2_4 + 1) (by omega) (by omega) hRES hok
          have loop33b : ∀ (n33b : Nat) (x3_33b : Int32) (i4_33b : Nat), i4_33b ≤ i2_4 → i2_4 < i4_33b + n33b → RES = l_X7_rows_33b (fun x1_4 i2_4 => l_X7_rows_4 S n4 x1_4 i2_4) S x1_4 i2_4 n33b x3_33b i4_33b → ol_X7_rows_33b (fun x1_4 i2_4 => ol_X7_rows_4 S n4 x1_4 i2_4) S x1_4 i2_4 n33b x3_33b i4_33b → X k 0 0 (wMo (kg k) h ad S) 33 [some (.ref h), some (.int x1_4), some (.int (nI i2_4)), some (.int x3_33b), some (.int (nI i4_33b))] [] := by
            intro n33b
            induction n33b with
            | zero =>
              intro x3_33b i4_33b hb33b hf33b hRES hok
              omega
            | succ n33b ih33b =>
              intro x3_33b i4_33b hb33b hf33b hRES hok
              rw [l_X7_rows_33b] at hRES
              rw [ol_X7_rows_33b] at hok
              refine x_iload (pc' := 35) C dX7_rows_33 rfl rfl ?_
              refine x_iload_n (pc' := 36) C dX7_rows_35 rfl rfl rfl ?_
              refine x_icmpN_ge (tgt := 79) (pc' := 39) C i4_33b i2_4 dX7_rows_36 (by decide) rfl (by omega) (by omega) (fun c8 => ?_) (fun c8 => ?_)
              · rw [if_neg c8] at hRES
                replace hok := hok.2 c8
                refine x_forget (L' := [some (.ref h), some (.int x1_4), some (.int (nI i2_4)), some (.int x3_33b), none]) [0, 1, 2, 3] rfl rfl ?_
                exact cont79b x3_33b hRES hok
              · rw [if_pos c8] at hRES
                replace hok := hok.1 c8
                refine x_iload_n (pc' := 40) C dX7_rows_39 rfl rfl rfl ?_
                refine x_if_eq (tgt := 71) (pc' := 43) C dX7_rows_40 (by decide) rfl (fun c9 => ?_) (fun c9 => ?_)
                · rw [if_pos c9] at hRES
                  replace hok := hok.1 c9
                  refine x_iconst (v := 0) (pc' := 72) C dX7_rows_71 rfl (by decide) ?_
                  refine x_istore_n (pc' := 73) (L' := [some (.ref h), some (.int x1_4), some (.int (nI i2_4)), some (.int 0), some (.int (nI i4_33b))]) C dX7_rows_72 rfl rfl (Nat.le_of_ble_eq_true rfl) rfl ?_
                  refine x_iinc (pc' := 76) (v := (nI (i4_33b + 1))) (L' := [some (.ref h), some (.int x1_4), some (.int (nI i2_4)), some (.int 0), some (.int (nI (i4_33b + 1)))]) C dX7_rows_73 rfl rfl (nI_add i4_33b 1) (Nat.le_of_ble_eq_true rfl) rfl ?_
                  refine x_goto (tgt := 33) C dX7_rows_76 (by decide) ?_
                  exact ih33b 0 (i4_33b + 1) (by omega) (by omega) hRES hok
                · rw [if_neg c9] at hRES
                  replace hok := hok.2 c9
                  refine x_aload_n (pc' := 44) C dX7_rows_43 rfl rfl rfl ?_
                  refine x_get (pc' := 47) (v := .ref (ad 0)) C 0 0 inBX7 rfl rfl (by decide) fl_X7_7 rfl rfl dX7_rows_44 rfl ?_
                  refine x_iload (pc' := 49) C dX7_rows_47 rfl rfl ?_
                  refine x_iconst (v := 0) (pc' := 50) C dX7_rows_49 rfl (by decide) ?_
                  refine x_RS (st := [.ref (ad 0)]) (st2 := [.int (f_X7_of (nI i4_33b) 0), .ref (ad 0)]) (pc' := 53) C (c_X7_of (kl k) (kg k) (nI i4_33b) 0) cw_X7_32 ok_X7_of (by decide) [] rfl rfl rfl (Nat.le_of_ble_eq_true rfl) (Nat.zero_le _) (Nat.zero_le _) rfl dX7_rows_50 rfl rfl ?_
                  obtain ⟨hn10, hok⟩ := hok
                  refine x_iald (pc' := 54) (f := S.2 0) (v := ((S.2 0) ((f_X7_of (nI i4_33b) 0)).toNatClampNeg)) C 1 rfl hn10 rfl dX7_rows_53 rfl ?_
                  refine x_if_eq (tgt := 67) (pc' := 57) C dX7_rows_54 (by decide) rfl (fun c11 => ?_) (fun c11 => ?_)
                  · rw [if_pos c11] at hRES
                    replace hok := hok.1 c11
                    refine x_iconst (v := 1) (pc' := 68) C dX7_rows_67 rfl (by decide) ?_
                    refine x_goto (tgt := 72) C dX7_rows_68 (by decide) ?_
                    refine x_istore_n (pc' := 73) (L' := [some (.ref h), some (.int x1_4), some (.int (nI i2_4)), some (.int 1), some (.int (nI i4_33b))]) C dX7_rows_72 rfl rfl (Nat.le_of_ble_eq_true rfl) rfl ?_
                    refine x_iinc (pc' := 76) (v := (nI (i4_33b + 1))) (L' := [some (.ref h), some (.int x1_4), some (.int (nI i2_4)), some (.int 1), some (.int (nI (i4_33b + 1)))]) C dX7_rows_73 rfl rfl (nI_add i4_33b 1) (Nat.le_of_ble_eq_true rfl) rfl ?_
                    refine x_goto (tgt := 33) C dX7_rows_76 (by decide) ?_
                    exact ih33b 1 (i4_33b + 1) (by omega) (by omega) hRES hok
                  · rw [if_neg c11] at hRES
                    replace hok := hok.2 c11
                    refine x_aload_n (pc' := 58) C dX7_rows_57 rfl rfl rfl ?_
                    refine x_iload (pc' := 60) C dX7_rows_58 rfl rfl ?_
                    refine x_iload_n (pc' := 61) C dX7_rows_60 rfl rfl rfl ?_
                    obtain ⟨hn12, hok⟩ := hok
                    refine x_RV (st := []) (st2 := [.int (f_X7_cellsUnlike S (nI i4_33b) (nI i2_4))]) (pc' := 64) C (c_X7_cellsUnlike (kl k) (kg k) h ad S (nI i4_33b) (nI i2_4) hn12) cw_X7_182 ok_X7_cellsUnlike rfl (by decide) 0 rfl rfl [0, 1, 2, 3, 4, 5, 6] rfl rfl rfl (Nat.le_of_ble_eq_true rfl) (Nat.zero_le _) (Nat.zero_le _) rfl dX7_rows_61 rfl rfl ?_
                    refine x_if_eq (tgt := 71) (pc' := 67) C dX7_rows_64 (by decide) rfl (fun c13 => ?_) (fun c13 => ?_)
                    · rw [if_pos c13] at hRES
                      replace hok := hok.1 c13
                      refine x_iconst (v := 0) (pc' := 72) C dX7_rows_71 rfl (by decide) ?_
                      refine x_istore_n (pc' := 73) (L' := [some (.ref h), some (.int x1_4), some (.int (nI i2_4)), some (.int 0), some (.int (nI i4_33b))]) C dX7_rows_72 rfl rfl (Nat.le_of_ble_eq_true rfl) rfl ?_
                      refine x_iinc (pc' := 76) (v := (nI (i4_33b + 1))) (L' := [some (.ref h), some (.int x1_4), some (.int (nI i2_4)), some (.int 0), some (.int (nI (i4_33b + 1)))]) C dX7_rows_73 rfl rfl (nI_add i4_33b 1) (Nat.le_of_ble_eq_true rfl) rfl ?_
                      refine x_goto (tgt := 33) C dX7_rows_76 (by decide) ?_
                      exact ih33b 0 (i4_33b + 1) (by omega) (by omega) hRES hok
                    · rw [if_neg c13] at hRES
                      replace hok := hok.2 c13
                      refine x_iconst (v := 1) (pc' := 68) C dX7_rows_67 rfl (by decide) ?_
                      refine x_goto (tgt := 72) C dX7_rows_68 (by decide) ?_
                      refine x_istore_n (pc' := 73) (L' := [some (.ref h), some (.int x1_4), some (.int (nI i2_4)), some (.int 1), some (.int (nI i4_33b))]) C dX7_rows_72 rfl rfl (Nat.le_of_ble_eq_true rfl) rfl ?_
                      refine x_iinc (pc' := 76) (v := (nI (i4_33b + 1))) (L' := [some (.ref h), some (.int x1_4), some (.int (nI i2_4)), some (.int 1), some (.int (nI (i4_33b + 1)))]) C dX7_rows_73 rfl rfl (nI_add i4_33b 1) (Nat.le_of_ble_eq_true rfl) rfl ?_
                      refine x_goto (tgt := 33) C dX7_rows_76 (by decide) ?_
                      exact ih33b 1 (i4_33b + 1) (by omega) (by omega) hRES hok
          exact loop33b (i2_4 + 1 - 0) 1 0 (by omega) (by omega) hRES hok
  exact loop4 25 0 0 (by omega) (by omega) hRES hok

def f_X7_count (S : CS) (a1 : Int32) : Int32 × CS := (if a1 = 0 then ((f_X7_versions S a1), S) else (if a1 = 1 then ((f_X7_versions S a1), S) else (if a1 = 2 then ((f_X7_room S), S) else (if a1 = 3 then (((S.2 0) 314), S) else (if a1 = 4 then (((S.2 0) 315), S) else (if a1 = 5 then ((f_X7_versions S a1), S) else (if a1 = 6 then ((f_X7_versions S a1), S) else (if a1 = 7 then (bind1 (f_X7_mostSteps S) (fun z15 => (z15.1, z15.2))) else (if a1 = 8 then (((S.2 0) 316), S) else (if a1 = 9 then (((S.2 0) 317), S) else (if a1 = 10 then (((S.2 0) (((312 + a1) - 10)).toNatClampNeg), S) else (if a1 = 11 then (((S.2 0) (((312 + a1) - 10)).toNatClampNeg), S) else (if a1 = 12 then ((f_X7_rows S), S) else (if a1 = 13 then (S.1 3, S) else (if a1 = 14 then (S.1 7, S) else ((-2), S))))))))))))))))
def o_X7_count (S : CS) (a1 : Int32) : Prop := ((a1 = 0 → ((o_X7_versions S a1) ∧ True)) ∧ (¬ (a1 = 0) → ((a1 = 1 → ((o_X7_versions S a1) ∧ True)) ∧ (¬ (a1 = 1) → ((a1 = 2 → ((o_X7_room S) ∧ True)) ∧ (¬ (a1 = 2) → ((a1 = 3 → True) ∧ (¬ (a1 = 3) → ((a1 = 4 → True) ∧ (¬ (a1 = 4) → ((a1 = 5 → ((o_X7_versions S a1) ∧ True)) ∧ (¬ (a1 = 5) → ((a1 = 6 → ((o_X7_versions S a1) ∧ True)) ∧ (¬ (a1 = 6) → ((a1 = 7 → ((o_X7_mostSteps S) ∧ (bind1 (f_X7_mostSteps S) (fun z15 => True)))) ∧ (¬ (a1 = 7) → ((a1 = 8 → True) ∧ (¬ (a1 = 8) → ((a1 = 9 → True) ∧ (¬ (a1 = 9) → ((a1 = 10 → (vp_in ((312 + a1) - 10) 318 ∧ True)) ∧ (¬ (a1 = 10) → ((a1 = 11 → (vp_in ((312 + a1) - 10) 318 ∧ True)) ∧ (¬ (a1 = 11) → ((a1 = 12 → ((o_X7_rows S) ∧ True)) ∧ (¬ (a1 = 12) → ((a1 = 13 → True) ∧ (¬ (a1 = 13) → ((a1 = 14 → True) ∧ (¬ (a1 = 14) → True))))))))))))))))))))))))))))))
set_option maxRecDepth 100000 in
set_option maxHeartbeats 8000000 in
theorem c_X7_count (l : Launch) (g : GT) (h : Nat) (ad : Nat → Nat) (S : CS) (a1 : Int32) (hok : o_X7_count S a1) : CW l yX7_count (.code yX7_count cX7_count 2 (some .int)) 5 g [.ref h, .int a1] (wMo g h ad S) (some (.int (f_X7_count S a1).1)) (wMo g h ad (f_X7_count S a1).2) := by
  obtain ⟨RES, hRES⟩ : ∃ z, z = (f_X7_count S a1) := ⟨_, rfl⟩
  rw [← hRES]
  unfold f_X7_count at hRES
  unfold o_X7_count at hok
  refine CWx.of (nL := 2) (ret := (some .int)) (own := RX7) (cc := cX7_count) rfl (by decide) rfl (List.forall_mem_cons.mpr ⟨rfl, (List.forall_mem_cons.mpr ⟨rfl, (fun _ h => absurd h List.not_mem_nil)⟩)⟩) (Nat.le_of_ble_eq_true rfl) ?_
  intro k C B hin hkl hkg
  subst hkl; subst hkg
  refine x_loc2 (L' := [some (.ref h), some (.int a1)]) rfl ?_
  refine x_iload_n (pc' := 1) C dX7_count_0 rfl rfl rfl ?_
  by_cases c1 : a1 = 0
  · rw [if_pos c1] at hRES
    replace hok := hok.1 c1
    refine x_tabIn (off := 75) (tgt := 76) C (0) dX7_count_1 (by rw [c1]; decide) (by decide) (by decide) rfl (by decide) ?_
    refine x_aload_n (pc' := 77) C dX7_count_76 rfl rfl rfl ?_
    refine x_iload_n (pc' := 78) C dX7_count_77 rfl rfl rfl ?_
    obtain ⟨hn2, hok⟩ := hok
    refine x_RV (st := []) (st2 := [.int (f_X7_versions S a1)]) (pc' := 81) C (c_X7_versions (kl k) (kg k) h ad S a1 hn2) cw_X7_81 ok_X7_versions rfl (by decide) 0 rfl rfl [0, 1, 2, 3, 4, 5, 6] rfl rfl rfl (Nat.le_of_ble_eq_true rfl) (Nat.zero_le _) (Nat.zero_le _) rfl dX7_count_78 rfl rfl ?_
    exact x_iret C (Nat.zero_le _) (Nat.zero_le _) dX7_count_81 ⟨by rw [hRES], by rw [hRES]⟩
  · rw [if_neg c1] at hRES
    replace hok := hok.2 c1
    by_cases c3 : a1 = 1
    · rw [if_pos c3] at hRES
      replace hok := hok.1 c3
      refine x_tabIn (off := 75) (tgt := 76) C (1) dX7_count_1 (by rw [c3]; decide) (by decide) (by decide) rfl (by decide) ?_
      refine x_aload_n (pc' := 77) C dX7_count_76 rfl rfl rfl ?_
      refine x_iload_n (pc' := 78) C dX7_count_77 rfl rfl rfl ?_
      obtain ⟨hn4, hok⟩ := hok
      refine x_RV (st := []) (st2 := [.int (f_X7_versions S a1)]) (pc' := 81) C (c_X7_versions (kl k) (kg k) h ad S a1 hn4) cw_X7_81 ok_X7_versions rfl (by decide) 0 rfl rfl [0, 1, 2, 3, 4, 5, 6] rfl rfl rfl (Nat.le_of_ble_eq_true rfl) (Nat.zero_le _) (Nat.zero_le _) rfl dX7_count_78 rfl rfl ?_
      exact x_iret C (Nat.zero_le _) (Nat.zero_le _) dX7_count_81 ⟨by rw [hRES], by rw [hRES]⟩
    · rw [if_neg c3] at hRES
      replace hok := hok.2 c3
      by_cases c5 : a1 = 2
      · rw [if_pos c5] at hRES
        replace hok := hok.1 c5
        refine x_tabIn (off := 81) (tgt := 82) C (2) dX7_count_1 (by rw [c5]; decide) (by decide) (by decide) rfl (by decide) ?_
        refine x_aload_n (pc' := 83) C dX7_count_82 rfl rfl rfl ?_
        obtain ⟨hn6, hok⟩ := hok
        refine x_RV (st := []) (st2 := [.int (f_X7_room S)]) (pc' := 86) C (c_X7_room (kl k) (kg k) h ad S hn6) cw_X7_195 ok_X7_room rfl (by decide) 0 rfl rfl [0, 1, 2, 3, 4, 5, 6] rfl rfl rfl (Nat.le_of_ble_eq_true rfl) (Nat.zero_le _) (Nat.zero_le _) rfl dX7_count_83 rfl rfl ?_
        exact x_iret C (Nat.zero_le _) (Nat.zero_le _) dX7_count_86 ⟨by rw [hRES], by rw [hRES]⟩
      · rw [if_neg c5] at hRES
        replace hok := hok.2 c5
        by_cases c7 : a1 = 3
        · rw [if_pos c7] at hRES
          replace hok := hok.1 c7
          refine x_tabIn (off := 86) (tgt := 87) C (3) dX7_count_1 (by rw [c7]; decide) (by decide) (by decide) rfl (by decide) ?_
          refine x_aload_n (pc' := 88) C dX7_count_87 rfl rfl rfl ?_
          refine x_get (pc' := 91) (v := .ref (ad 0)) C 0 0 inBX7 rfl rfl (by decide) fl_X7_7 rfl rfl dX7_count_88 rfl ?_
          refine x_sipush (v := 314) (pc' := 94) C dX7_count_91 rfl (by decide) ?_
          refine x_ialdN (pc' := 95) (f := S.2 0) (j := 314) (v := ((S.2 0) 314)) C 1 rfl (by decide) (by decide) rfl dX7_count_94 rfl ?_
          exact x_iret C (Nat.zero_le _) (Nat.zero_le _) dX7_count_95 ⟨by rw [hRES], by rw [hRES]⟩
        · rw [if_neg c7] at hRES
          replace hok := hok.2 c7
          by_cases c8 : a1 = 4
          · rw [if_pos c8] at hRES
            replace hok := hok.1 c8
            refine x_tabIn (off := 95) (tgt := 96) C (4) dX7_count_1 (by rw [c8]; decide) (by decide) (by decide) rfl (by decide) ?_
            refine x_aload_n (pc' := 97) C dX7_count_96 rfl rfl rfl ?_
            refine x_get (pc' := 100) (v := .ref (ad 0)) C 0 0 inBX7 rfl rfl (by decide) fl_X7_7 rfl rfl dX7_count_97 rfl ?_
            refine x_sipush (v := 315) (pc' := 103) C dX7_count_100 rfl (by decide) ?_
            refine x_ialdN (pc' := 104) (f := S.2 0) (j := 315) (v := ((S.2 0) 315)) C 1 rfl (by decide) (by decide) rfl dX7_count_103 rfl ?_
            exact x_iret C (Nat.zero_le _) (Nat.zero_le _) dX7_count_104 ⟨by rw [hRES], by rw [hRES]⟩
          · rw [if_neg c8] at hRES
            replace hok := hok.2 c8
            by_cases c9 : a1 = 5
            · rw [if_pos c9] at hRES
              replace hok := hok.1 c9
              refine x_tabIn (off := 75) (tgt := 76) C (5) dX7_count_1 (by rw [c9]; decide) (by decide) (by decide) rfl (by decide) ?_
              refine x_aload_n (pc' := 77) C dX7_count_76 rfl rfl rfl ?_
              refine x_iload_n (pc' := 78) C dX7_count_77 rfl rfl rfl ?_
              obtain ⟨hn10, hok⟩ := hok
              refine x_RV (st := []) (st2 := [.int (f_X7_versions S a1)]) (pc' := 81) C (c_X7_versions (kl k) (kg k) h ad S a1 hn10) cw_X7_81 ok_X7_versions rfl (by decide) 0 rfl rfl [0, 1, 2, 3, 4, 5, 6] rfl rfl rfl (Nat.le_of_ble_eq_true rfl) (Nat.zero_le _) (Nat.zero_le _) rfl dX7_count_78 rfl rfl ?_
              exact x_iret C (Nat.zero_le _) (Nat.zero_le _) dX7_count_81 ⟨by rw [hRES], by rw [hRES]⟩
            · rw [if_neg c9] at hRES
              replace hok := hok.2 c9
              by_cases c11 : a1 = 6
              · rw [if_pos c11] at hRES
                replace hok := hok.1 c11
                refine x_tabIn (off := 75) (tgt := 76) C (6) dX7_count_1 (by rw [c11]; decide) (by decide) (by decide) rfl (by decide) ?_
                refine x_aload_n (pc' := 77) C dX7_count_76 rfl rfl rfl ?_
                refine x_iload_n (pc' := 78) C dX7_count_77 rfl rfl rfl ?_
                obtain ⟨hn12, hok⟩ := hok
                refine x_RV (st := []) (st2 := [.int (f_X7_versions S a1)]) (pc' := 81) C (c_X7_versions (kl k) (kg k) h ad S a1 hn12) cw_X7_81 ok_X7_versions rfl (by decide) 0 rfl rfl [0, 1, 2, 3, 4, 5, 6] rfl rfl rfl (Nat.le_of_ble_eq_true rfl) (Nat.zero_le _) (Nat.zero_le _) rfl dX7_count_78 rfl rfl ?_
                exact x_iret C (Nat.zero_le _) (Nat.zero_le _) dX7_count_81 ⟨by rw [hRES], by rw [hRES]⟩
              · rw [if_neg c11] at hRES
                replace hok := hok.2 c11
                by_cases c13 : a1 = 7
                · rw [if_pos c13] at hRES
                  replace hok := hok.1 c13
                  refine x_tabIn (off := 104) (tgt := 105) C (7) dX7_count_1 (by rw [c13]; decide) (by decide) (by decide) rfl (by decide) ?_
                  refine x_aload_n (pc' := 106) C dX7_count_105 rfl rfl rfl ?_
                  obtain ⟨hn14, hok⟩ := hok
                  obtain ⟨z15, ez15⟩ : ∃ z, z = (f_X7_mostSteps S) := ⟨_, rfl⟩
                  replace hRES := bd hRES z15 ez15
                  replace hok := bdP hok z15 ez15
                  have hc := c_X7_mostSteps (kl k) (kg k) h ad S hn14
                  rw [← ez15] at hc
                  refine x_WV (st := []) (st2 := [.int z15.1]) (pc' := 109) C B hc cw_X7_198 ok_X7_mostSteps rfl (by decide) 0 rfl rfl [0, 1, 2, 3, 4, 5, 6] [] [0, 1, 2, 3, 4, 5, 6] (wMo (kg k) h ad z15.2) rfl rfl rfl rfl (by decide) rfl rfl rfl (Nat.le_of_ble_eq_true rfl) (Nat.zero_le _) (Nat.zero_le _) rfl dX7_count_106 rfl rfl ?_
                  exact x_iret C (Nat.zero_le _) (Nat.zero_le _) dX7_count_109 ⟨by rw [hRES], by rw [hRES]⟩
                · rw [if_neg c13] at hRES
                  replace hok := hok.2 c13
                  by_cases c16 : a1 = 8
                  · rw [if_pos c16] at hRES
                    replace hok := hok.1 c16
                    refine x_tabIn (off := 109) (tgt := 110) C (8) dX7_count_1 (by rw [c16]; decide) (by decide) (by decide) rfl (by decide) ?_
                    refine x_aload_n (pc' := 111) C dX7_count_110 rfl rfl rfl ?_
                    refine x_get (pc' := 114) (v := .ref (ad 0)) C 0 0 inBX7 rfl rfl (by decide) fl_X7_7 rfl rfl dX7_count_111 rfl ?_
                    refine x_sipush (v := 316) (pc' := 117) C dX7_count_114 rfl (by decide) ?_
                    refine x_ialdN (pc' := 118) (f := S.2 0) (j := 316) (v := ((S.2 0) 316)) C 1 rfl (by decide) (by decide) rfl dX7_count_117 rfl ?_
                    exact x_iret C (Nat.zero_le _) (Nat.zero_le _) dX7_count_118 ⟨by rw [hRES], by rw [hRES]⟩
                  · rw [if_neg c16] at hRES
                    replace hok := hok.2 c16
                    by_cases c17 : a1 = 9
                    · rw [if_pos c17] at hRES
                      replace hok := hok.1 c17
                      refine x_tabIn (off := 118) (tgt := 119) C (9) dX7_count_1 (by rw [c17]; decide) (by decide) (by decide) rfl (by decide) ?_
                      refine x_aload_n (pc' := 120) C dX7_count_119 rfl rfl rfl ?_
                      refine x_get (pc' := 123) (v := .ref (ad 0)) C 0 0 inBX7 rfl rfl (by decide) fl_X7_7 rfl rfl dX7_count_120 rfl ?_
                      refine x_sipush (v := 317) (pc' := 126) C dX7_count_123 rfl (by decide) ?_
                      refine x_ialdN (pc' := 127) (f := S.2 0) (j := 317) (v := ((S.2 0) 317)) C 1 rfl (by decide) (by decide) rfl dX7_count_126 rfl ?_
                      exact x_iret C (Nat.zero_le _) (Nat.zero_le _) dX7_count_127 ⟨by rw [hRES], by rw [hRES]⟩
                    · rw [if_neg c17] at hRES
                      replace hok := hok.2 c17
                      by_cases c18 : a1 = 10
                      · rw [if_pos c18] at hRES
                        replace hok := hok.1 c18
                        refine x_tabIn (off := 127) (tgt := 128) C (10) dX7_count_1 (by rw [c18]; decide) (by decide) (by decide) rfl (by decide) ?_
                        refine x_aload_n (pc' := 129) C dX7_count_128 rfl rfl rfl ?_
                        refine x_get (pc' := 132) (v := .ref (ad 0)) C 0 0 inBX7 rfl rfl (by decide) fl_X7_7 rfl rfl dX7_count_129 rfl ?_
                        refine x_sipush (v := 312) (pc' := 135) C dX7_count_132 rfl (by decide) ?_
                        refine x_iload_n (pc' := 136) C dX7_count_135 rfl rfl rfl ?_
                        refine x_iadd (pc' := 137) (v := (312 + a1)) C dX7_count_136 rfl rfl ?_
                        refine x_bipush (v := 10) (pc' := 139) C dX7_count_137 rfl (by decide) ?_
                        refine x_isub (pc' := 140) (v := ((312 + a1) - 10)) C dX7_count_139 rfl rfl ?_
                        obtain ⟨hn19, hok⟩ := hok
                        refine x_iald (pc' := 141) (f := S.2 0) (v := ((S.2 0) (((312 + a1) - 10)).toNatClampNeg)) C 1 rfl hn19 rfl dX7_count_140 rfl ?_
                        exact x_iret C (Nat.zero_le _) (Nat.zero_le _) dX7_count_141 ⟨by rw [hRES], by rw [hRES]⟩
                      · rw [if_neg c18] at hRES
                        replace hok := hok.2 c18
                        by_cases c20 : a1 = 11
                        · rw [if_pos c20] at hRES
                          replace hok := hok.1 c20
                          refine x_tabIn (off := 127) (tgt := 128) C (11) dX7_count_1 (by rw [c20]; decide) (by decide) (by decide) rfl (by decide) ?_
                          refine x_aload_n (pc' := 129) C dX7_count_128 rfl rfl rfl ?_
                          refine x_get (pc' := 132) (v := .ref (ad 0)) C 0 0 inBX7 rfl rfl (by decide) fl_X7_7 rfl rfl dX7_count_129 rfl ?_
                          refine x_sipush (v := 312) (pc' := 135) C dX7_count_132 rfl (by decide) ?_
                          refine x_iload_n (pc' := 136) C dX7_count_135 rfl rfl rfl ?_
                          refine x_iadd (pc' := 137) (v := (312 + a1)) C dX7_count_136 rfl rfl ?_
                          refine x_bipush (v := 10) (pc' := 139) C dX7_count_137 rfl (by decide) ?_
                          refine x_isub (pc' := 140) (v := ((312 + a1) - 10)) C dX7_count_139 rfl rfl ?_
                          obtain ⟨hn21, hok⟩ := hok
                          refine x_iald (pc' := 141) (f := S.2 0) (v := ((S.2 0) (((312 + a1) - 10)).toNatClampNeg)) C 1 rfl hn21 rfl dX7_count_140 rfl ?_
                          exact x_iret C (Nat.zero_le _) (Nat.zero_le _) dX7_count_141 ⟨by rw [hRES], by rw [hRES]⟩
                        · rw [if_neg c20] at hRES
                          replace hok := hok.2 c20
                          by_cases c22 : a1 = 12
                          · rw [if_pos c22] at hRES
                            replace hok := hok.1 c22
                            refine x_tabIn (off := 141) (tgt := 142) C (12) dX7_count_1 (by rw [c22]; decide) (by decide) (by decide) rfl (by decide) ?_
                            refine x_aload_n (pc' := 143) C dX7_count_142 rfl rfl rfl ?_
                            obtain ⟨hn23, hok⟩ := hok
                            refine x_RV (st := []) (st2 := [.int (f_X7_rows S)]) (pc' := 146) C (c_X7_rows (kl k) (kg k) h ad S hn23) cw_X7_201 ok_X7_rows rfl (by decide) 0 rfl rfl [0, 1, 2, 3, 4, 5, 6] rfl rfl rfl (Nat.le_of_ble_eq_true rfl) (Nat.zero_le _) (Nat.zero_le _) rfl dX7_count_143 rfl rfl ?_
                            exact x_iret C (Nat.zero_le _) (Nat.zero_le _) dX7_count_146 ⟨by rw [hRES], by rw [hRES]⟩
                          · rw [if_neg c22] at hRES
                            replace hok := hok.2 c22
                            by_cases c24 : a1 = 13
                            · rw [if_pos c24] at hRES
                              replace hok := hok.1 c24
                              refine x_tabIn (off := 146) (tgt := 147) C (13) dX7_count_1 (by rw [c24]; decide) (by decide) (by decide) rfl (by decide) ?_
                              refine x_aload_n (pc' := 148) C dX7_count_147 rfl rfl rfl ?_
                              refine x_get (pc' := 151) (v := .int (S.1 3)) C 0 3 inBX7 rfl rfl (by decide) fl_X7_40 rfl rfl dX7_count_148 rfl ?_
                              exact x_iret C (Nat.zero_le _) (Nat.zero_le _) dX7_count_151 ⟨by rw [hRES], by rw [hRES]⟩
                            · rw [if_neg c24] at hRES
                              replace hok := hok.2 c24
                              by_cases c25 : a1 = 14
                              · rw [if_pos c25] at hRES
                                replace hok := hok.1 c25
                                refine x_tabIn (off := 151) (tgt := 152) C (14) dX7_count_1 (by rw [c25]; decide) (by decide) (by decide) rfl (by decide) ?_
                                refine x_aload_n (pc' := 153) C dX7_count_152 rfl rfl rfl ?_
                                refine x_get (pc' := 156) (v := .int (S.1 7)) C 0 7 inBX7 rfl rfl (by decide) fl_X7_125 rfl rfl dX7_count_153 rfl ?_
                                exact x_iret C (Nat.zero_le _) (Nat.zero_le _) dX7_count_156 ⟨by rw [hRES], by rw [hRES]⟩
                              · rw [if_neg c25] at hRES
                                replace hok := hok.2 c25
                                refine x_tabOut (tgt := 157) C dX7_count_1 (by have hc1 := lv_neT (a := 0) c1 (by decide); have hc3 := lv_neT (a := 1) c3 (by decide); have hc5 := lv_neT (a := 2) c5 (by decide); have hc7 := lv_neT (a := 3) c7 (by decide); have hc8 := lv_neT (a := 4) c8 (by decide); have hc9 := lv_neT (a := 5) c9 (by decide); have hc11 := lv_neT (a := 6) c11 (by decide); have hc13 := lv_neT (a := 7) c13 (by decide); have hc16 := lv_neT (a := 8) c16 (by decide); have hc17 := lv_neT (a := 9) c17 (by decide); have hc18 := lv_neT (a := 10) c18 (by decide); have hc20 := lv_neT (a := 11) c20 (by decide); have hc22 := lv_neT (a := 12) c22 (by decide); have hc24 := lv_neT (a := 13) c24 (by decide); have hc25 := lv_neT (a := 14) c25 (by decide); omega) (by decide) ?_
                                refine x_bipush (v := (-2)) (pc' := 159) C dX7_count_157 rfl (by decide) ?_
                                exact x_iret C (Nat.zero_le _) (Nat.zero_le _) dX7_count_159 ⟨by rw [hRES], by rw [hRES]⟩
