/-! PURE PART. make, mix -/
section MKS
variable {N : CS} {S : CS} {B : Nat}
theorem free_n (h : OKB N (S.2 0) B) : o_X7_free S ∧ ((∃ v, v < 24 ∧ ¬ rP (S.2 0) v ∧ f_X5_lowestFree N = nI v ∧ f_X7_free S = nI v) ∨ (f_X5_lowestFree N = 24 ∧ f_X7_free S = -5)) := by
  have W := h.1
  have R := h.2.2.1
  have key : ∀ (m i : Nat), i ≤ 24 → i + m = 25 → ol_X7_free_2 S m i ∧ ((∃ v, v < 24 ∧ ¬ rP (S.2 0) v ∧ l_X5_lowestFree_2 N m i = nI v ∧ l_X7_free_2 S m i = nI v) ∨ (l_X5_lowestFree_2 N m i = 24 ∧ l_X7_free_2 S m i = -5)) := by
    intro m
    induction m with
    | zero => intro i h1 h2; omega
    | succ m ih =>
      intro i h1 h2
      rw [ol_X7_free_2, l_X5_lowestFree_2, l_X7_free_2]
      by_cases q : i < 24
      · obtain ⟨a, b⟩ := ih (i + 1) (by omega) (by omega)
        rw [if_pos q, if_pos q, cl0 q, has_n R q]
        by_cases p : pB (S.2 0) i = true
        · have p1 := (pB_iff.mp p).2
          have p0 : ¬ S.2 0 (13 * i) = 0 := by rw [p1]; decide
          rw [if_pos p, if_neg p0]
          exact ⟨⟨fun _ => ⟨vi0 q, fun _ => trivial, fun _ => a⟩, fun k => absurd q k⟩, b⟩
        · have p0 : S.2 0 (13 * i) = 0 := by
            rcases W.2.1 i q with z | z
            · exact z
            · exact absurd (pB_iff.mpr ⟨q, z⟩) p
          rw [if_neg p, if_pos p0]
          exact ⟨⟨fun _ => ⟨vi0 q, fun _ => trivial, fun k => absurd p0 k⟩, fun k => absurd q k⟩, Or.inl ⟨i, q, fun z => p (pB_iff.mpr z), rfl, rfl⟩⟩
      · have : i = 24 := by omega
        subst this
        rw [if_neg q, if_neg q]
        exact ⟨⟨fun k => absurd k q, fun _ => trivial⟩, Or.inr ⟨rfl, rfl⟩⟩
  exact key 25 0 (by decide) (by decide)
theorem copy_n {a b : Nat} (ha : a < 24) (hb : b < 24) (hab : a ≠ b) (x : Int32) : ∀ (m i : Nat) (Z : CS), i ≤ 8 → i + m = 9 → (l_X5_copyCells_3 (nI a) (nI b) x m Z i).1 = Z.1 ∧ (∀ j, j ≠ 6 → (l_X5_copyCells_3 (nI a) (nI b) x m Z i).2 j = Z.2 j) ∧ (∀ j, (j < 8 * b + i ∨ 8 * b + 8 ≤ j) → (l_X5_copyCells_3 (nI a) (nI b) x m Z i).2 6 j = Z.2 6 j) ∧ ∀ c, i ≤ c → c < 8 → (l_X5_copyCells_3 (nI a) (nI b) x m Z i).2 6 (8 * b + c) = if bt x c = true then Z.2 6 (8 * a + c) else Z.2 6 (8 * b + c) := by
  intro m
  induction m with
  | zero => intro i Z h1 h2; omega
  | succ m ih =>
    intro i Z h1 h2
    rw [l_X5_copyCells_3]
    by_cases q : i < 8
    · rw [if_pos q, isIn_nI (show i < 24 by omega)]
      by_cases d : bt x i = true
      · rw [if_pos d]
        simp only [bind1]
        rw [nume Z ha q, pute Z hb q]
        obtain ⟨r1, r2, r3, r4⟩ := ih (i + 1) (setF Z 6 (upd (Z.2 6) (8 * b + i) (Z.2 6 (8 * a + i)))) (by omega) (by omega)
        refine ⟨r1, fun j hj => (r2 j hj).trans (setF_n Z _ hj), fun j hj => ?_, fun c hc hc2 => ?_⟩
        · rw [r3 j (by omega), setF_s, pk_un (by omega)]
        · by_cases z : c = i
          · subst z
            rw [r3 _ (by omega), setF_s, pk_us, if_pos d]
          · rw [r4 c (by omega) hc2, setF_s, pk_un (by omega), pk_un (by omega)]
      · rw [if_neg d]
        obtain ⟨r1, r2, r3, r4⟩ := ih (i + 1) Z (by omega) (by omega)
        refine ⟨r1, r2, fun j hj => r3 j (by omega), fun c hc hc2 => ?_⟩
        by_cases z : c = i
        · subst z
          rw [r3 _ (by omega), if_neg d]
        · exact r4 c (by omega) hc2
    · rw [if_neg q]
      exact ⟨rfl, fun _ _ => rfl, fun _ _ => rfl, fun c a b => by omega⟩
theorem bt255 {c : Nat} (h : c < 8) : bt 255 c = true := by
  have e : ∀ c : Fin 8, bt 255 c.1 = true := by decide +kernel
  exact e ⟨c, h⟩
theorem comes_l {a1 : Int32} {u v : Nat} (hu : u < 24) (hv : v < 24) (huv : u ≠ v) (ea : a1 = nI u) (ef : f_X7_free S = nI v) : ∀ (m i : Nat) (Z : CS), i ≤ 13 → i + m = 14 → ∃ R : CS, R.1 = Z.1 ∧ (∀ j, j ≠ 0 → R.2 j = Z.2 j) ∧ (∀ j, (j < 13 * v + i ∨ 13 * v + 13 ≤ j) → R.2 0 j = Z.2 0 j) ∧ (∀ k, i ≤ k → k < 13 → R.2 0 (13 * v + k) = if k < 5 then 0 else Z.2 0 (13 * u + k)) ∧ l_X7_comes_7 S a1 m Z i = k_X7_comes_48 S a1 R ∧ (ok_X7_comes_48 S a1 R → ol_X7_comes_7 S a1 m Z i) := by
  intro m
  induction m with
  | zero => intro i Z h1 h2; omega
  | succ m ih =>
    intro i Z h1 h2
    rw [ol_X7_comes_7, l_X7_comes_7]
    simp only [bind1]
    by_cases q : i < 13
    · rw [if_pos q, ef, ea, cln hv q, cln hu q]
      by_cases d : i < 5
      · obtain ⟨R, r1, r2, r3, r4, r5, r6⟩ := ih (i + 1) (setF Z 0 (upd (Z.2 0) (13 * v + i) 0)) (by omega) (by omega)
        rw [if_pos d, ← ea]
        refine ⟨R, r1, fun j hj => (r2 j hj).trans (setF_n Z _ hj), fun j hj => ?_, fun k hk hk2 => ?_, r5, fun o => ⟨fun _ => ⟨fun _ => ⟨vi hv q, r6 o⟩, fun k => absurd d k⟩, fun k => absurd q k⟩⟩
        · rw [r3 j (by omega), setF_s, pk_un (by omega)]
        · by_cases z : k = i
          · subst z
            rw [r3 _ (by omega), setF_s, pk_us, if_pos d]
          · rw [r4 k (by omega) hk2, setF_s, pk_un (by omega)]
      · obtain ⟨R, r1, r2, r3, r4, r5, r6⟩ := ih (i + 1) (setF Z 0 (upd (Z.2 0) (13 * v + i) (Z.2 0 (13 * u + i)))) (by omega) (by omega)
        rw [if_neg d, ← ea]
        refine ⟨R, r1, fun j hj => (r2 j hj).trans (setF_n Z _ hj), fun j hj => ?_, fun k hk hk2 => ?_, r5, fun o => ⟨fun _ => ⟨fun k => absurd k d, fun _ => ⟨by rw [ea]; exact vi hu q, vi hv q, r6 o⟩⟩, fun k => absurd q k⟩⟩
        · rw [r3 j (by omega), setF_s, pk_un (by omega)]
        · by_cases z : k = i
          · subst z
            rw [r3 _ (by omega), setF_s, pk_us, if_neg d]
          · rw [r4 k (by omega) hk2, setF_s, pk_un (by omega)]
    · rw [if_neg q]
      exact ⟨Z, rfl, fun _ _ => rfl, fun _ _ => rfl, fun k a b => by omega, rfl, fun o => ⟨fun k => absurd k q, fun _ => o⟩⟩
/-- what the reference's new version looks like -/
def CMS (S : CS) (u v : Nat) (C : CS) : Prop := chg S C ∧ (∀ j, (j < 13 * v ∨ 13 * v + 13 ≤ j) → C.2 0 j = S.2 0 j) ∧ C.2 0 (13 * v) = 1 ∧ C.2 0 (13 * v + 1) = nI u ∧ C.2 0 (13 * v + 2) = 1 ∧ C.2 0 (13 * v + 3) = 0 ∧ C.2 0 (13 * v + 4) = 0 ∧ ∀ c, c < 8 → C.2 0 (13 * v + (5 + c)) = S.2 0 (13 * u + (5 + c))
theorem comes_c {u v : Nat} (hu : u < 24) (hv : v < 24) (huv : u ≠ v) (ef : f_X7_free S = nI v) (of : o_X7_free S) : o_X7_comes S (nI u) ∧ ∃ C, f_X7_comes S (nI u) = (nI v, C) ∧ CMS S u v C := by
  obtain ⟨R, r1, r2, r3, r4, r5, r6⟩ := comes_l hu hv huv rfl ef 14 0 S (by decide) (by decide)
  have e : f_X7_comes S (nI u) = k_X7_comes_48 S (nI u) R := r5
  refine ⟨⟨of, r6 ?_⟩, ?_⟩
  · unfold ok_X7_comes_48
    simp only [bind1]
    rw [ef]
    exact ⟨vi0 hv, vi1 hv, vi2 hv, trivial⟩
  · rw [e]
    unfold k_X7_comes_48
    simp only [bind1]
    rw [ef, cl0 hv, cl1 hv, cl2 hv]
    refine ⟨_, rfl, ?_⟩
    have cR : chg S R := ⟨fun j _ _ => congrFun r1 j, fun j a _ => r2 j a⟩
    refine ⟨((cR.F _).F _).F _, ?_⟩
    simp only [setF_s]
    refine ⟨fun j hj => ?_, ?_, ?_, ?_, ?_, ?_, fun c hc => ?_⟩
    · rw [pk_un (by omega), pk_un (by omega), pk_un (by omega)]
      exact r3 j (by omega)
    · rw [pk_un (by omega), pk_un (by omega), pk_us]
    · rw [pk_un (by omega), pk_us]
    · rw [pk_us]
    · rw [pk_un (by omega), pk_un (by omega), pk_un (by omega), r4 3 (by decide) (by decide), if_pos (by decide)]
    · rw [pk_un (by omega), pk_un (by omega), pk_un (by omega), r4 4 (by decide) (by decide), if_pos (by decide)]
    · rw [pk_un (by omega), pk_un (by omega), pk_un (by omega), r4 (5 + c) (by omega) (by omega), if_neg (by omega)]
theorem make_born (h : OKB N (S.2 0) B) {u v c : Nat} {Y C : CS} {x : Int32} (hu : rP (S.2 0) u) (v24 : v < 24) (nv : ¬ rP (S.2 0) v) (hc : c < 8) (b1 : Y.1 = N.1) (b2 : ∀ j, j ≠ 6 → Y.2 j = N.2 j) (b3 : ∀ j, (j < 8 * v ∨ 8 * v + 8 ≤ j) → Y.2 6 j = N.2 6 j) (b4 : ∀ c, c < 8 → Y.2 6 (8 * v + c) = N.2 6 (8 * u + c)) (cm : CMS S u v C) : OKB (f_X5_hang (setF Y 6 (upd (Y.2 6) (8 * v + c) x)) (nI v) (nI u)) (upd (C.2 0) (13 * v + (5 + c)) x) B := by
  have R := h.2.2.1
  obtain ⟨cC, c0, k0, k1, k2, k3, k4, k5⟩ := cm
  refine h.born v24 nv hu (fun i hi hi2 => ?_) ?_ ?_ ?_ ?_ ?_ b1 (fun i hi => (setF_n Y _ hi).trans (b2 i hi)) (fun w e hw hwv he => ?_) (fun e he => ?_)
  · rw [pk_un (by omega)]
    exact c0 i hi2
  · rw [pk_un (by omega)]; exact k0
  · rw [pk_un (by omega)]; exact k1
  · rw [pk_un (by omega)]; exact k2
  · rw [pk_un (by omega)]; exact k3
  · rw [pk_un (by omega)]; exact k4
  · rw [setF_s, pk_un (by omega)]
    exact b3 _ (by omega)
  · rw [setF_s]
    by_cases z : e = c
    · subst z
      rw [pk_us, pk_us]
    · rw [pk_un (by omega), pk_un (by omega), b4 e he, k5 e he]
      exact (R.2.2.2.2.2.1 u hu).2 e he
theorem t_make (h : OKB N (S.2 0) B) (M : CS) (a1 a2 a3 : Int32) : o_X7_makes S a1 a2 a3 ∧ (f_X6_tryMake M N a1 a2 a3).1 = (f_X7_makes S a1 a2 a3).1 ∧ OKB (f_X6_tryMake M N a1 a2 a3).2 ((f_X7_makes S a1 a2 a3).2.2 0) B ∧ chg S (f_X7_makes S a1 a2 a3).2 := by
  have K := h.toS
  have R := h.2.2.1
  obtain ⟨of, fr⟩ := free_n h
  unfold o_X7_makes f_X6_tryMake f_X7_makes
  rcases ver_c K a1 with ⟨q1, q2, q3⟩ | ⟨u, hu, rfl, q1, q2, q3⟩
  · rw [q1, q3]
    exact ⟨⟨q2, fun k => (by cases k), fun _ => trivial⟩, rfl, h, chg.rf S⟩
  · rw [q1, q3, if_pos rfl, if_pos rfl]
    rcases cell_c a2 with ⟨p1, p2⟩ | ⟨c, hc, rfl, p1, p2⟩
    · rw [p1, p2]
      exact ⟨⟨q2, fun _ => ⟨fun k => (by cases k), fun _ => trivial⟩, fun k => absurd rfl k⟩, rfl, h, chg.rf S⟩
    · rw [p1, p2, if_pos rfl, if_pos rfl]
      rcases (show (f_X7_in a3 0 9 = true ∧ ∃ j, 0 ≤ j ∧ j ≤ 9 ∧ a3 = nI j) ∨ (f_X7_in a3 0 9 = false ∧ (a3 < 0 ∨ 9 < a3)) from in_rng a3 (lo := 0) (hi := 9) (by decide) (by decide)) with ⟨x, j, -, hj, rfl⟩ | ⟨x, d⟩
      · have l0 : ¬ nI j < 0 := nI_pos (by omega)
        have l9 : ¬ 9 < nI j := nI_nlt (show j ≤ 9 by omega) (by decide)
        rw [x, if_pos rfl, if_neg l0, if_neg l9]
        rcases fr with ⟨v, v24, nv, f1, f2⟩ | ⟨f1, f2⟩
        · have g1 : ¬ f_X5_lowestFree N = 24 := by
            rw [f1]
            intro z
            have := (nI_eq (b := 24) (by omega) (by decide)).mp z
            omega
          have g2 : ¬ f_X7_free S = -5 := by
            rw [f2]
            exact fun z => nI_pos (show v < 2 ^ 31 by omega) (z ▸ (show (-5 : Int32) < 0 by decide))
          have uv : u ≠ v := fun z => nv (z ▸ hu)
          obtain ⟨oc, C, ec, cms⟩ := comes_c hu.1 v24 uv f2 of
          have cC := cms.1
          rw [if_neg g1, if_neg g2, f1]
          simp only [bind1]
          rw [ec]
          dsimp only
          rw [of5, cln v24 (by omega)]
          obtain ⟨b1, b2, b3, b4⟩ := copy_n hu.1 v24 uv 255 9 0 N (by decide) (by decide)
          have eC : f_X5_copyCells N (nI u) (nI v) 255 = l_X5_copyCells_3 (nI u) (nI v) 255 9 N 0 := rfl
          rw [eC]
          generalize l_X5_copyCells_3 (nI u) (nI v) 255 9 N 0 = Y at *
          rw [pute Y v24 hc]
          have HB : OKB (f_X5_hang (setF Y 6 (upd (Y.2 6) (8 * v + c) (nI j))) (nI v) (nI u)) (upd (C.2 0) (13 * v + (5 + c)) (nI j)) B := make_born h hu v24 nv hc b1 b2 (fun j hj => b3 j (by omega)) (fun c hc => by rw [b4 c (Nat.zero_le _) hc, if_pos (bt255 hc)]) cms
          have oz : vp_in (f_X7_of (nI v) (nI (5 + c))) 318 := vi v24 (by omega)
          have hd : (setF C 0 (upd (C.2 0) (13 * v + (5 + c)) (nI j))).2 0 = upd (C.2 0) (13 * v + (5 + c)) (nI j) := setF_s _ _ _
          have hc2 := cC.F (upd (C.2 0) (13 * v + (5 + c)) (nI j))
          generalize f_X5_hang (setF Y 6 (upd (Y.2 6) (8 * v + c) (nI j))) (nI v) (nI u) = HH at *
          generalize setF C 0 (upd (C.2 0) (13 * v + (5 + c)) (nI j)) = DD' at *
          rw [← hd] at HB
          exact ⟨⟨q2, fun _ => ⟨fun _ => ⟨fun _ => ⟨of, fun k => absurd k g2, fun _ => ⟨oc, oz, trivial⟩⟩, fun k => absurd trivial k⟩, fun k => absurd trivial k⟩, fun k => absurd trivial k⟩, rfl, HB, hc2⟩
        · rw [if_pos f1, if_pos f2]
          exact ⟨⟨q2, fun _ => ⟨fun _ => ⟨fun _ => ⟨of, fun _ => trivial, fun k => absurd f2 k⟩, fun k => absurd rfl k⟩, fun k => absurd rfl k⟩, fun k => absurd rfl k⟩, rfl, h, chg.rf S⟩
      · rw [x, if_neg (show ¬ false = true by decide)]
        have e : (if a3 < 0 then ((-2 : Int32), N) else (if 9 < a3 then ((-2), N) else (if (f_X5_lowestFree N) = 24 then ((-3), N) else (bind1 (f_X5_copyCells N (nI u) (f_X5_lowestFree N) 255) (fun z6 => (bind1 (f_X5_putNumber z6 (f_X5_lowestFree N) (nI c) a3) (fun z7 => (bind1 (f_X5_hang z7 (f_X5_lowestFree N) (nI u)) (fun z8 => ((f_X5_lowestFree N), z8)))))))))) = (-2, N) := by
          rcases d with d | d
          · rw [if_pos d]
          · by_cases y : a3 < 0
            · rw [if_pos y]
            · rw [if_neg y, if_pos d]
        rw [e]
        exact ⟨⟨q2, fun _ => ⟨fun _ => ⟨fun k => absurd k (by decide), fun _ => trivial⟩, fun k => absurd rfl k⟩, fun k => absurd rfl k⟩, rfl, h, chg.rf S⟩
end MKS
