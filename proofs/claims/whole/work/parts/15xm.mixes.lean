/-! PURE PART. mix -/
section MXS
variable {N : CS} {S : CS} {B : Nat}
theorem mixbit {k i : Nat} (hk : k < 256) (hi : i < 8) : ((nI k >>> (nI i &&& 31)) &&& 1) = 1 ↔ bt (nI k) i = true := by
  have hs : ((nI i &&& 31).toBitVec.smod 32).toNat = i := by
    have : ∀ i : Fin 8, ((nI i.1 &&& 31).toBitVec.smod 32).toNat = i.1 := by decide +kernel
    exact this ⟨i, hi⟩
  have hl : k / 2 ^ i < 2 ^ 32 := Nat.lt_of_le_of_lt (Nat.div_le_self _ _) (by omega)
  rw [pk_shrN (by omega) _ i hs, pk_andN hl 1 (by decide), bt_nI (by omega), Nat.testBit_eq_decide_div_mod_eq, decide_eq_true_iff]
  have h2 : k / 2 ^ i % 2 ^ 1 < 2 := Nat.mod_lt _ (by decide)
  rw [show (1 : Int32) = nI 1 from rfl, nI_eq (by omega) (by decide)]
theorem mixes_l {v o k : Nat} (hv : v < 24) (ho : o < 24) (hov : o ≠ v) (hk : k < 256) (C : CS) : ∀ (m i : Nat) (Z : CS), i ≤ 8 → i + m = 9 → ∃ R : CS, R.1 = Z.1 ∧ (∀ j, j ≠ 0 → R.2 j = Z.2 j) ∧ (∀ j, (j < 13 * v + 5 + i ∨ 13 * v + 13 ≤ j) → R.2 0 j = Z.2 0 j) ∧ (∀ c, i ≤ c → c < 8 → R.2 0 (13 * v + (5 + c)) = if bt (nI k) c = true then Z.2 0 (13 * o + (5 + c)) else Z.2 0 (13 * v + (5 + c))) ∧ l_X7_mixes_54 (nI o) (nI k) (nI v, C) m Z i = (nI v, R) ∧ ol_X7_mixes_54 (nI o) (nI k) (nI v, C) m Z i := by
  intro m
  induction m with
  | zero => intro i Z h1 h2; omega
  | succ m ih =>
    intro i Z h1 h2
    rw [ol_X7_mixes_54, l_X7_mixes_54]
    simp only [bind1]
    by_cases q : i < 8
    · rw [if_pos q, cln hv (by omega), cln ho (by omega)]
      have iv : vp_in (f_X7_of (nI v) (nI (5 + i))) 318 := vi hv (by omega)
      have io : vp_in (f_X7_of (nI o) (nI (5 + i))) 318 := vi ho (by omega)
      by_cases d : bt (nI k) i = true
      · obtain ⟨R, r1, r2, r3, r4, r5, r6⟩ := ih (i + 1) (setF Z 0 (upd (Z.2 0) (13 * v + (5 + i)) (Z.2 0 (13 * o + (5 + i))))) (by omega) (by omega)
        have d' := (mixbit hk q).mpr d
        rw [if_pos d']
        refine ⟨R, r1, fun j hj => (r2 j hj).trans (setF_n Z _ hj), fun j hj => ?_, fun c hc hc2 => ?_, r5, fun _ => ⟨fun _ => ⟨io, iv, r6⟩, fun k => absurd d' k⟩, fun k => absurd q k⟩
        · rw [r3 j (by omega), setF_s, pk_un (by omega)]
        · by_cases z : c = i
          · subst z
            rw [r3 _ (by omega), setF_s, pk_us, if_pos d]
          · rw [r4 c (by omega) hc2, setF_s, pk_un (by omega), pk_un (by omega)]
      · obtain ⟨R, r1, r2, r3, r4, r5, r6⟩ := ih (i + 1) (setF Z 0 (upd (Z.2 0) (13 * v + (5 + i)) (Z.2 0 (13 * v + (5 + i))))) (by omega) (by omega)
        have d' : ¬ ((nI k >>> (nI i &&& 31)) &&& 1) = 1 := fun z => d ((mixbit hk q).mp z)
        rw [if_neg d']
        refine ⟨R, r1, fun j hj => (r2 j hj).trans (setF_n Z _ hj), fun j hj => ?_, fun c hc hc2 => ?_, r5, fun _ => ⟨fun k => absurd k d', fun _ => ⟨iv, iv, r6⟩⟩, fun k => absurd q k⟩
        · rw [r3 j (by omega), setF_s, pk_un (by omega)]
        · by_cases z : c = i
          · subst z
            rw [r3 _ (by omega), setF_s, pk_us, if_neg d]
          · rw [r4 c (by omega) hc2, setF_s, pk_un (by omega), pk_un (by omega)]
    · rw [if_neg q]
      exact ⟨Z, rfl, fun _ _ => rfl, fun _ _ => rfl, fun c a b => by omega, rfl, fun k => absurd k q, fun _ => trivial⟩
theorem mix_born (h : OKB N (S.2 0) B) {u v o k : Nat} {Y Y2 C R : CS} (hu : rP (S.2 0) u) (ho : rP (S.2 0) o) (v24 : v < 24) (nv : ¬ rP (S.2 0) v) (b1 : Y.1 = N.1) (b2 : ∀ j, j ≠ 6 → Y.2 j = N.2 j) (b3 : ∀ j, (j < 8 * v ∨ 8 * v + 8 ≤ j) → Y.2 6 j = N.2 6 j) (b4 : ∀ c, c < 8 → Y.2 6 (8 * v + c) = N.2 6 (8 * u + c)) (d1 : Y2.1 = Y.1) (d2 : ∀ j, j ≠ 6 → Y2.2 j = Y.2 j) (d3 : ∀ j, (j < 8 * v ∨ 8 * v + 8 ≤ j) → Y2.2 6 j = Y.2 6 j) (d4 : ∀ c, c < 8 → Y2.2 6 (8 * v + c) = if bt (nI k) c = true then Y.2 6 (8 * o + c) else Y.2 6 (8 * v + c)) (cm : CMS S u v C) (r3 : ∀ j, (j < 13 * v + 5 ∨ 13 * v + 13 ≤ j) → R.2 0 j = C.2 0 j) (r4 : ∀ c, c < 8 → R.2 0 (13 * v + (5 + c)) = if bt (nI k) c = true then C.2 0 (13 * o + (5 + c)) else C.2 0 (13 * v + (5 + c))) : OKB (f_X5_hang Y2 (nI v) (nI u)) (R.2 0) B := by
  have RR := h.2.2.1
  have o24 := ho.1
  have ov : o ≠ v := fun z => nv (z ▸ ho)
  obtain ⟨cC, c0, k0, k1, k2, k3, k4, k5⟩ := cm
  refine h.born v24 nv hu (fun i hi hi2 => ?_) ?_ ?_ ?_ ?_ ?_ (d1.trans b1) (fun i hi => (d2 i hi).trans (b2 i hi)) (fun w e hw hwv he => ?_) (fun e he => ?_)
  · rw [r3 i (by omega)]
    exact c0 i hi2
  · rw [r3 _ (by omega)]; exact k0
  · rw [r3 _ (by omega)]; exact k1
  · rw [r3 _ (by omega)]; exact k2
  · rw [r3 _ (by omega)]; exact k3
  · rw [r3 _ (by omega)]; exact k4
  · rw [d3 _ (by omega), b3 _ (by omega)]
  · rw [d4 e he, r4 e he]
    by_cases c : bt (nI k) e = true
    · rw [if_pos c, if_pos c, b3 _ (by omega), c0 _ (by omega)]
      exact (RR.2.2.2.2.2.1 o ho).2 e he
    · rw [if_neg c, if_neg c, b4 e he, k5 e he]
      exact (RR.2.2.2.2.2.1 u hu).2 e he
theorem t_mix (h : OKB N (S.2 0) B) (M : CS) (a1 a2 a3 : Int32) : o_X7_mixes S a1 a2 a3 ∧ (f_X6_tryMix M N a1 a2 a3).1 = (f_X7_mixes S a1 a2 a3).1 ∧ OKB (f_X6_tryMix M N a1 a2 a3).2 ((f_X7_mixes S a1 a2 a3).2.2 0) B ∧ chg S (f_X7_mixes S a1 a2 a3).2 := by
  have K := h.toS
  have R := h.2.2.1
  obtain ⟨of, fr⟩ := free_n h
  unfold o_X7_mixes f_X6_tryMix f_X7_mixes
  rcases ver_c K a1 with ⟨q1, q2, q3⟩ | ⟨u, hu, rfl, q1, q2, q3⟩
  · rw [q1, q3]
    exact ⟨⟨q2, fun k => (by cases k), fun _ => trivial⟩, rfl, h, chg.rf S⟩
  · rw [q1, q3, if_pos rfl, if_pos rfl]
    rcases ver_c K a2 with ⟨p1, p2, p3⟩ | ⟨o, ho, rfl, p1, p2, p3⟩
    · rw [p1, p3]
      exact ⟨⟨q2, fun _ => ⟨p2, fun k => (by cases k), fun _ => trivial⟩, fun k => absurd rfl k⟩, rfl, h, chg.rf S⟩
    · rw [p1, p3, if_pos rfl, if_pos rfl]
      rcases (show (f_X7_in a3 1 255 = true ∧ ∃ j, 1 ≤ j ∧ j ≤ 255 ∧ a3 = nI j) ∨ (f_X7_in a3 1 255 = false ∧ (a3 < 1 ∨ 255 < a3)) from in_rng a3 (lo := 1) (hi := 255) (by decide) (by decide)) with ⟨x, k, hk1, hk, rfl⟩ | ⟨x, d⟩
      · have l0 : ¬ nI k < 1 := nI_nlt (show 1 ≤ k by omega) (by omega)
        have l9 : ¬ 255 < nI k := nI_nlt (show k ≤ 255 by omega) (by decide)
        rw [x, if_pos rfl, if_neg l0, if_neg l9]
        rcases fr with ⟨v, v24, nv, f1, f2⟩ | ⟨f1, f2⟩
        · have g1 : ¬ f_X5_lowestFree N = 24 := by
            rw [f1]
            intro z
            have := (nI_eq (b := 24) (by omega) (by decide)).mp z
            omega
          have g2 : ¬ f_X7_free S = -5 := by
            rw [f2]
            exact fun z => nI_pos (show v < 2 ^ 31 by omega) (z ▸ (show (-5 : Int32) < 0 by decide))
          have uv : u ≠ v := fun z => nv (z ▸ hu)
          have ov : o ≠ v := fun z => nv (z ▸ ho)
          obtain ⟨oc, C, ec, cms⟩ := comes_c hu.1 v24 uv f2 of
          rw [if_neg g1, if_neg g2, f1]
          simp only [bind1]
          rw [ec]
          dsimp only
          obtain ⟨b1, b2, b3, b4⟩ := copy_n hu.1 v24 uv 255 9 0 N (by decide) (by decide)
          have eC : f_X5_copyCells N (nI u) (nI v) 255 = l_X5_copyCells_3 (nI u) (nI v) 255 9 N 0 := rfl
          rw [eC]
          clear eC
          generalize l_X5_copyCells_3 (nI u) (nI v) 255 9 N 0 = Y at *
          obtain ⟨d1, d2, d3, d4⟩ := copy_n ho.1 v24 ov (nI k) 9 0 Y (by decide) (by decide)
          have eD : f_X5_copyCells Y (nI o) (nI v) (nI k) = l_X5_copyCells_3 (nI o) (nI v) (nI k) 9 Y 0 := rfl
          rw [eD]
          clear eD
          generalize l_X5_copyCells_3 (nI o) (nI v) (nI k) 9 Y 0 = Y2 at *
          obtain ⟨RR, r1, r2, r3, r4, r5, r6⟩ := mixes_l v24 ho.1 ov (show k < 256 by omega) C 9 0 C (by decide) (by decide)
          have HB : OKB (f_X5_hang Y2 (nI v) (nI u)) (RR.2 0) B := mix_born h hu ho v24 nv b1 b2 (fun j hj => b3 j (by omega)) (fun c hc => by rw [b4 c (Nat.zero_le _) hc, if_pos (bt255 hc)]) d1 d2 (fun j hj => d3 j (by omega)) (fun c hc => d4 c (Nat.zero_le _) hc) cms (fun j hj => r3 j (by omega)) (fun c hc => r4 c (Nat.zero_le _) hc)
          have cR : chg S RR := cms.1.trans ⟨fun j _ _ => congrFun r1 j, fun j a _ => r2 j a⟩
          rw [r5]
          generalize f_X5_hang Y2 (nI v) (nI u) = HH at *
          exact ⟨⟨q2, fun _ => ⟨p2, fun _ => ⟨fun _ => ⟨of, fun k => absurd k g2, fun _ => ⟨oc, r6⟩⟩, fun k => absurd trivial k⟩, fun k => absurd trivial k⟩, fun k => absurd trivial k⟩, rfl, HB, cR⟩
        · rw [if_pos f1, if_pos f2]
          exact ⟨⟨q2, fun _ => ⟨p2, fun _ => ⟨fun _ => ⟨of, fun _ => trivial, fun k => absurd f2 k⟩, fun k => absurd rfl k⟩, fun k => absurd rfl k⟩, fun k => absurd rfl k⟩, rfl, h, chg.rf S⟩
      · rw [x, if_neg (show ¬ false = true by decide)]
        have e : (if a3 < 1 then ((-2 : Int32), N) else (if 255 < a3 then ((-2), N) else (if (f_X5_lowestFree N) = 24 then ((-3), N) else (bind1 (f_X5_copyCells N (nI u) (f_X5_lowestFree N) 255) (fun z6 => (bind1 (f_X5_copyCells z6 (nI o) (f_X5_lowestFree N) a3) (fun z7 => (bind1 (f_X5_hang z7 (f_X5_lowestFree N) (nI u)) (fun z8 => ((f_X5_lowestFree N), z8)))))))))) = (-2, N) := by
          rcases d with d | d
          · rw [if_pos d]
          · by_cases y : a3 < 1
            · rw [if_pos y]
            · rw [if_neg y, if_pos d]
        rw [e]
        exact ⟨⟨q2, fun _ => ⟨p2, fun _ => ⟨fun k => absurd k (by decide), fun _ => trivial⟩, fun k => absurd rfl k⟩, fun k => absurd rfl k⟩, rfl, h, chg.rf S⟩
end MXS
theorem sim_make (M : CS) (N : CS) (F : CS) (P : CS) (Q : HS) (E : CS) (O : CS) (S : CS) (n : Nat) (a1 : Int32) (a2 : Int32) (a3 : Int32) (h : REL M N F P Q E O S n) (hn : n < 512) : (o_X6_make M N F Q a1 a2 a3) ∧ (o_X7_make S a1 a2 a3) ∧ (f_X6_make M N F Q a1 a2 a3).1 = (f_X7_make S a1 a2 a3).1 ∧ REL M ((f_X6_make M N F Q a1 a2 a3).2.1) ((f_X6_make M N F Q a1 a2 a3).2.2.1) P ((f_X6_make M N F Q a1 a2 a3).2.2.2) E O ((f_X7_make S a1 a2 a3).2) (n + 1) :=
  sim2 h (A := f_X6_tryMake M N a1 a2 a3) (r := fun z => f_X7_makes z a1 a2 a3) (oR := fun z => o_X7_makes z a1 a2 a3) (show 50 * n ≤ 50 * (n + 1) by omega) (t_make (relB h) M a1 a2 a3)
theorem sim_mix (M : CS) (N : CS) (F : CS) (P : CS) (Q : HS) (E : CS) (O : CS) (S : CS) (n : Nat) (a1 : Int32) (a2 : Int32) (a3 : Int32) (h : REL M N F P Q E O S n) (hn : n < 512) : (o_X6_mix M N F Q a1 a2 a3) ∧ (o_X7_mix S a1 a2 a3) ∧ (f_X6_mix M N F Q a1 a2 a3).1 = (f_X7_mix S a1 a2 a3).1 ∧ REL M ((f_X6_mix M N F Q a1 a2 a3).2.1) ((f_X6_mix M N F Q a1 a2 a3).2.2.1) P ((f_X6_mix M N F Q a1 a2 a3).2.2.2) E O ((f_X7_mix S a1 a2 a3).2) (n + 1) :=
  sim2 h (A := f_X6_tryMix M N a1 a2 a3) (r := fun z => f_X7_mixes z a1 a2 a3) (oR := fun z => o_X7_mixes z a1 a2 a3) (show 50 * n ≤ 50 * (n + 1) by omega) (t_mix (relB h) M a1 a2 a3)
