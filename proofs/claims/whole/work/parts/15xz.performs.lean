/-! PURE PART. perform -/
section PER
variable {t : Nat → Nat} {L : Nat}
def chP (S S' : CS) : Prop := (∀ j, (j < 8 ∨ j = 10 ∨ 18 < j) → S'.1 j = S.1 j) ∧ ∀ j, j ≠ 0 → j ≠ 10 → S'.2 j = S.2 j
def chQ (S S' : CS) : Prop := chP S S' ∧ S'.1 8 = S.1 8 ∧ S'.1 9 = S.1 9
theorem chP.trans {S Z R : CS} (h : chP S Z) (h2 : chP Z R) : chP S R := ⟨fun j a => (h2.1 j a).trans (h.1 j a), fun j a b => (h2.2 j a b).trans (h.2 j a b)⟩
theorem chQ.trans {S Z R : CS} (h : chQ S Z) (h2 : chQ Z R) : chQ S R := ⟨h.1.trans h2.1, h2.2.1.trans h.2.1, h2.2.2.trans h.2.2⟩
theorem G4.q {S Z : CS} (h : G4 S Z) : chQ S Z := ⟨⟨fun j a => h.1 j (by omega), fun j _ _ => by rw [h.2]⟩, h.1 8 (by omega), h.1 9 (by omega)⟩
theorem chg.q {S Z : CS} (h : chg S Z) : chQ S Z := ⟨⟨fun j a => h.1 j (by omega) (by omega), h.2⟩, h.1 8 (by omega) (by omega), h.1 9 (by omega) (by omega)⟩
theorem chg.rx {S Z : CS} (h : chg S Z) (hx : RX t L S) : RX t L Z := ⟨(h.1 7 (by decide) (by decide)).trans hx.1, fun i hi => by rw [h.2 6 (by decide) (by decide)]; exact hx.2 i hi⟩
/-- behind an order that went through -/
theorem cont {Y : CS} {e n i : Nat} (a : Int32) (hx : RX t L Y) (hL : L ≤ 80) (ht : ∀ i, t i < 65536) (he : e ≤ L) (e13 : Y.1 13 = nI e) (e14 : Y.1 14 = 0) : (e < L → tq t L e 59 = true → ∃ U, SG Y U false (e + 1) ∧ (if Y.1 14 = 0 then (if Y.1 13 < Y.1 7 then (if (f_X7_sign Y 59).1 14 = 0 then (l_X7_go_14 a n (f_X7_sign Y 59) (i + 1) 1) else (l_X7_go_14 a n (f_X7_sign Y 59) (i + 1) 0)) else (l_X7_go_14 a n Y (i + 1) 0)) else (l_X7_go_14 a n Y (i + 1) 0)) = l_X7_go_14 a n U (i + 1) 1 ∧ (ol_X7_go_14 a n U (i + 1) 1 → ((Y.1 14 = 0 → ((Y.1 13 < Y.1 7 → ((o_X7_sign Y 59) ∧ (((f_X7_sign Y 59).1 14 = 0 → (ol_X7_go_14 a n (f_X7_sign Y 59) (i + 1) 1)) ∧ (¬ ((f_X7_sign Y 59).1 14 = 0) → (ol_X7_go_14 a n (f_X7_sign Y 59) (i + 1) 0))))) ∧ (¬ (Y.1 13 < Y.1 7) → (ol_X7_go_14 a n Y (i + 1) 0)))) ∧ (¬ (Y.1 14 = 0) → (ol_X7_go_14 a n Y (i + 1) 0))))) ∧ (¬ e < L → (if Y.1 14 = 0 then (if Y.1 13 < Y.1 7 then (if (f_X7_sign Y 59).1 14 = 0 then (l_X7_go_14 a n (f_X7_sign Y 59) (i + 1) 1) else (l_X7_go_14 a n (f_X7_sign Y 59) (i + 1) 0)) else (l_X7_go_14 a n Y (i + 1) 0)) else (l_X7_go_14 a n Y (i + 1) 0)) = l_X7_go_14 a n Y (i + 1) 0 ∧ (ol_X7_go_14 a n Y (i + 1) 0 → ((Y.1 14 = 0 → ((Y.1 13 < Y.1 7 → ((o_X7_sign Y 59) ∧ (((f_X7_sign Y 59).1 14 = 0 → (ol_X7_go_14 a n (f_X7_sign Y 59) (i + 1) 1)) ∧ (¬ ((f_X7_sign Y 59).1 14 = 0) → (ol_X7_go_14 a n (f_X7_sign Y 59) (i + 1) 0))))) ∧ (¬ (Y.1 13 < Y.1 7) → (ol_X7_go_14 a n Y (i + 1) 0)))) ∧ (¬ (Y.1 14 = 0) → (ol_X7_go_14 a n Y (i + 1) 0))))) := by
  have q : Y.1 13 < Y.1 7 ↔ e < L := by rw [e13, hx.1]; exact nI_ltI (by omega) (by omega)
  refine ⟨fun y w => ?_, fun y => ?_⟩
  · obtain ⟨o2, s2⟩ := sign_r (c := 59) (w := false) hx hL ht he (by decide) e13 e14
    have o2 : o_X7_sign Y 59 := o2
    have s2 : SG Y (f_X7_sign Y 59) _ _ := s2
    unfold sW sP at s2
    rw [if_neg (show ¬ false = true by decide), w, if_pos rfl] at s2
    have u0 : (f_X7_sign Y 59).1 14 = 0 := s2.2.2.2
    rw [if_pos e14, if_pos (q.mpr y), if_pos u0]
    exact ⟨_, s2, rfl, fun o => ⟨fun _ => ⟨fun _ => ⟨o2, fun _ => o, fun k => absurd u0 k⟩, fun k => absurd (q.mpr y) k⟩, fun k => absurd e14 k⟩⟩
  · rw [if_pos e14, if_neg (fun k => y (q.mp k))]
    exact ⟨rfl, fun o => ⟨fun _ => ⟨fun k => absurd (q.mp k) y, fun _ => o⟩, fun k => absurd e14 k⟩⟩
theorem run_l {M F' : CS} {Q : HS} {z2 : Bool × CS} {K : Nat} (hL : L ≤ 80) (ht : ∀ i, t i < 65536) (hK : K ≤ 14) (HK : z2.2.1 3 = nI K) (G : ∀ k, k < K → GD t L z2.2 k) (ch : ∀ k, k < K → (OD t L (PO t L k)).1 = true ∧ (k + 1 < K → (OD t L (PO t L k)).2.1 < L ∧ tq t L (OD t L (PO t L k)).2.1 59 = true) ∧ (k + 1 = K → ¬ (OD t L (PO t L k)).2.1 < L)) (hE : o_X6_endAct M F' Q (nI K)) : ∀ (d i n n' B : Nat) (E N S : CS), d + i = K → 0 < d → d < n → OKB N (S.2 0) B → RX t L S → S.1 13 = nI (PO t L i) → S.1 14 = 0 → PO t L i ≤ L → L + 2 ≤ n' + PO t L i → ol_X6_perform_27 M Q z2 F' n E N i ∧ ol_X7_go_14 1 n' S i 1 ∧ ((∃ N' E', l_X6_perform_27 M Q z2 F' n E N i = ((f_X6_endAct M F' Q (nI K)).1, M, N', F', (f_X6_endAct M F' Q (nI K)).2, E', z2.2) ∧ (l_X7_go_14 1 n' S i 1).1 = nI K ∧ chQ S (l_X7_go_14 1 n' S i 1).2 ∧ OKB N' ((l_X7_go_14 1 n' S i 1).2.2 0) (B + d)) ∨ (∃ N' E' k err, k < 16 ∧ l_X6_perform_27 M Q z2 F' n E N i = (-4, setI (setI (setI M 7 1) 8 (nI k)) 9 err, f_X5_copyFrom N' F', F', Q, E', z2.2) ∧ (l_X7_go_14 1 n' S i 1).1 = -4 ∧ chP S (l_X7_go_14 1 n' S i 1).2 ∧ (l_X7_go_14 1 n' S i 1).2.1 8 = nI k ∧ (l_X7_go_14 1 n' S i 1).2.1 9 = err)) := by
  intro d
  induction d with
  | zero => intro i n n' B E N S h1 h2; omega
  | succ d ih =>
    intro i n n' B E N S h1 h2 h3 H hx e13 e14 hp hn
    cases n with
    | zero => omega
    | succ n =>
    cases n' with
    | zero => omega
    | succ n' =>
    cases n' with
    | zero => omega
    | succ n' =>
    have hi : i < K := by omega
    obtain ⟨ok, c1, c2⟩ := ch i hi
    obtain ⟨a, b, c⟩ := OD_le (t := t) hp
    have c := c ok
    obtain ⟨o1, lt, ⟨g1, b1, d1, f1⟩, el⟩ := order_r hx hL ht hp e13 e14
    obtain ⟨z15, z16, z17⟩ := f1 ok
    rw [el ok] at z15
    rw [ok] at d1
    have d1 : (f_X7_order S).1 14 = 0 := d1
    have n10 : ¬ (1 : Int32) = 0 := by decide
    have lk : nI i < z2.2.1 3 := by rw [HK]; exact nI_lt hi (by omega)
    rw [l_X6_perform_27, ol_X6_perform_27, l_X7_go_14, ol_X7_go_14, if_pos lk, if_neg n10]
    simp only [bind1]
    generalize f_X7_order S = Z at *
    have hZ := g1.rx hx
    have HZ : OKB N (Z.2 0) B := by rw [g1.2]; exact H
    obtain ⟨o2, ea, HY, cY⟩ := exec1 (M := M) (E := E) HZ (show i < 16 by omega) (G i hi) c.2 z15 z16 z17
    rw [if_neg n10]
    generalize f_X6_carryOut M N E z2.2 (nI i) = C at *
    generalize f_X7_does Z = Y at *
    obtain ⟨C1, C2, C3⟩ := C
    obtain ⟨Y1, Y2⟩ := Y
    have ea : C1 = Y1 := ea
    subst ea
    have HY : OKB C2 (Y2.2 0) (B + 1) := HY
    have cY : chg Z Y2 := cY
    dsimp only
    have hY := cY.rx hZ
    have y13 : Y2.1 13 = nI (OD t L (PO t L i)).2.1 := (cY.1 13 (by decide) (by decide)).trans b1
    have y14 : Y2.1 14 = 0 := (cY.1 14 (by decide) (by decide)).trans d1
    have qY : chQ S Y2 := g1.q.trans cY.q
    obtain ⟨k1, k2⟩ := cont (n := n' + 1) (i := i) 1 hY hL ht b y13 y14
    have go : ∀ (R : Int32 × CS) (oR : Prop), (∀ U, SG Y2 U false ((OD t L (PO t L i)).2.1 + 1) → (OD t L (PO t L i)).2.1 < L → R = l_X7_go_14 1 (n' + 1) U (i + 1) 1 → (ol_X7_go_14 1 (n' + 1) U (i + 1) 1 → oR) → ol_X6_perform_27 M Q z2 F' n C3 C2 (i + 1) ∧ oR ∧ ((∃ N' E', l_X6_perform_27 M Q z2 F' n C3 C2 (i + 1) = ((f_X6_endAct M F' Q (nI K)).1, M, N', F', (f_X6_endAct M F' Q (nI K)).2, E', z2.2) ∧ R.1 = nI K ∧ chQ S R.2 ∧ OKB N' (R.2.2 0) (B + (d + 1))) ∨ (∃ N' E' k err, k < 16 ∧ l_X6_perform_27 M Q z2 F' n C3 C2 (i + 1) = (-4, setI (setI (setI M 7 1) 8 (nI k)) 9 err, f_X5_copyFrom N' F', F', Q, E', z2.2) ∧ R.1 = -4 ∧ chP S R.2 ∧ R.2.1 8 = nI k ∧ R.2.1 9 = err))) := by
      intro R oR U sU y eR wR
      have ep : PO t L (i + 1) = (OD t L (PO t L i)).2.1 + 1 := rfl
      have qU : chQ S U := qY.trans sU.g4.q
      have HU : OKB C2 (U.2 0) (B + 1) := by rw [sU.2.1]; exact HY
      have d0 : 0 < d := by
        rcases Nat.eq_zero_or_pos d with z | z
        · exact absurd y (c2 (by omega))
        · exact z
      obtain ⟨x1, x2, x3⟩ := ih (i + 1) n (n' + 1) (B + 1) C3 C2 U (by omega) d0 (by omega) HU (sU.rx hY) sU.2.2.1 sU.2.2.2 (by omega) (by omega)
      rw [eR]
      refine ⟨x1, wR x2, ?_⟩
      rcases x3 with ⟨N', E', y1, y2, y3, y4⟩ | ⟨N', E', k, err, y0, y1, y2, y3, y4, y5⟩
      · exact Or.inl ⟨N', E', y1, y2, qU.trans y3, y4.mono (by omega)⟩
      · exact Or.inr ⟨N', E', k, err, y0, y1, y2, qU.1.trans y3, y4, y5⟩
    have fin : ∀ (R : Int32 × CS) (oR : Prop), ¬ (OD t L (PO t L i)).2.1 < L → R = l_X7_go_14 1 (n' + 1) Y2 (i + 1) 0 → (ol_X7_go_14 1 (n' + 1) Y2 (i + 1) 0 → oR) → ol_X6_perform_27 M Q z2 F' n C3 C2 (i + 1) ∧ oR ∧ ((∃ N' E', l_X6_perform_27 M Q z2 F' n C3 C2 (i + 1) = ((f_X6_endAct M F' Q (nI K)).1, M, N', F', (f_X6_endAct M F' Q (nI K)).2, E', z2.2) ∧ R.1 = nI K ∧ chQ S R.2 ∧ OKB N' (R.2.2 0) (B + (d + 1))) ∨ (∃ N' E' k err, k < 16 ∧ l_X6_perform_27 M Q z2 F' n C3 C2 (i + 1) = (-4, setI (setI (setI M 7 1) 8 (nI k)) 9 err, f_X5_copyFrom N' F', F', Q, E', z2.2) ∧ R.1 = -4 ∧ chP S R.2 ∧ R.2.1 8 = nI k ∧ R.2.1 9 = err)) := by
      intro R oR y eR wR
      have iK : i + 1 = K := by
        rcases Nat.lt_or_ge (i + 1) K with z | z
        · exact absurd (c1 z).1 y
        · omega
      obtain ⟨e3, o3⟩ := go_end 1 n' (i + 1) Y2
      rw [e3] at eR
      rw [eR]
      cases n with
      | zero => omega
      | succ n =>
        have nk : ¬ nI (i + 1) < z2.2.1 3 := by rw [HK, iK]; exact nI_nlt (Nat.le_refl _) (by omega)
        rw [l_X6_perform_27, ol_X6_perform_27, if_neg nk]
        unfold k_X6_perform_67 ok_X6_perform_67
        simp only [bind1]
        rw [HK] at nk ⊢
        exact ⟨⟨fun k => absurd k nk, fun _ => ⟨hE, trivial⟩⟩, wR o3, Or.inl ⟨C2, C3, rfl, congrArg nI iK, qY, HY.mono (by omega)⟩⟩
    have nx : ∀ (R : Int32 × CS) (oR : Prop), R = (if Y2.1 14 = 0 then (if Y2.1 13 < Y2.1 7 then (if (f_X7_sign Y2 59).1 14 = 0 then (l_X7_go_14 1 (n' + 1) (f_X7_sign Y2 59) (i + 1) 1) else (l_X7_go_14 1 (n' + 1) (f_X7_sign Y2 59) (i + 1) 0)) else (l_X7_go_14 1 (n' + 1) Y2 (i + 1) 0)) else (l_X7_go_14 1 (n' + 1) Y2 (i + 1) 0)) → (((Y2.1 14 = 0 → ((Y2.1 13 < Y2.1 7 → ((o_X7_sign Y2 59) ∧ (((f_X7_sign Y2 59).1 14 = 0 → (ol_X7_go_14 1 (n' + 1) (f_X7_sign Y2 59) (i + 1) 1)) ∧ (¬ ((f_X7_sign Y2 59).1 14 = 0) → (ol_X7_go_14 1 (n' + 1) (f_X7_sign Y2 59) (i + 1) 0))))) ∧ (¬ (Y2.1 13 < Y2.1 7) → (ol_X7_go_14 1 (n' + 1) Y2 (i + 1) 0)))) ∧ (¬ (Y2.1 14 = 0) → (ol_X7_go_14 1 (n' + 1) Y2 (i + 1) 0))) → oR) → ol_X6_perform_27 M Q z2 F' n C3 C2 (i + 1) ∧ oR ∧ ((∃ N' E', l_X6_perform_27 M Q z2 F' n C3 C2 (i + 1) = ((f_X6_endAct M F' Q (nI K)).1, M, N', F', (f_X6_endAct M F' Q (nI K)).2, E', z2.2) ∧ R.1 = nI K ∧ chQ S R.2 ∧ OKB N' (R.2.2 0) (B + (d + 1))) ∨ (∃ N' E' k err, k < 16 ∧ l_X6_perform_27 M Q z2 F' n C3 C2 (i + 1) = (-4, setI (setI (setI M 7 1) 8 (nI k)) 9 err, f_X5_copyFrom N' F', F', Q, E', z2.2) ∧ R.1 = -4 ∧ chP S R.2 ∧ R.2.1 8 = nI k ∧ R.2.1 9 = err)) := by
      intro R oR eR wR
      by_cases y : (OD t L (PO t L i)).2.1 < L
      · have w : tq t L (OD t L (PO t L i)).2.1 59 = true := by
          rcases Nat.lt_or_ge (i + 1) K with z | z
          · exact (c1 z).2
          · exact absurd y (c2 (by omega))
        obtain ⟨U, sU, eU, oU⟩ := k1 y w
        exact go R oR U sU y (eR.trans eU) (fun o => wR (oU o))
      · obtain ⟨eU, oU⟩ := k2 y
        exact fin R oR y (eR.trans eU) (fun o => wR (oU o))
    by_cases s1 : C1 < 0
    · by_cases s2 : C1 = -5
      · rw [if_pos s1, if_pos s2, if_pos s1, if_pos s2]
        obtain ⟨x1, x2, x3⟩ := nx _ _ rfl id
        exact ⟨⟨fun _ => ⟨fun _ => ⟨fun _ => x1, fun k => absurd s2 k⟩, fun k => absurd s1 k⟩, fun k => absurd lk k⟩, ⟨fun k => absurd k n10, fun _ => ⟨o1, fun k => absurd k n10, fun _ => ⟨o2, fun _ => ⟨fun _ => x2, fun k => absurd s2 k⟩, fun k => absurd s1 k⟩⟩⟩, x3⟩
      · rw [if_pos s1, if_neg s2, if_pos s1, if_neg s2]
        refine ⟨⟨fun _ => ⟨fun _ => ⟨fun k => absurd k s2, fun _ => trivial⟩, fun k => absurd s1 k⟩, fun k => absurd lk k⟩, ⟨fun k => absurd k n10, fun _ => ⟨o1, fun k => absurd k n10, fun _ => ⟨o2, fun _ => ⟨fun k => absurd k s2, fun _ => trivial⟩, fun k => absurd s1 k⟩⟩⟩, Or.inr ⟨C2, C3, i, C1, by omega, rfl, rfl, ?_, ?_, ?_⟩⟩
        · exact qY.1.trans ⟨fun j a => (setI_n _ _ (by omega)).trans (setI_n _ _ (by omega)), fun _ _ _ => rfl⟩
        · exact (setI_n _ _ (by decide)).trans (setI_s _ _ _)
        · exact setI_s _ _ _
    · rw [if_neg s1, if_neg s1]
      obtain ⟨x1, x2, x3⟩ := nx _ _ rfl id
      exact ⟨⟨fun _ => ⟨fun k => absurd k s1, fun _ => x1⟩, fun k => absurd lk k⟩, ⟨fun k => absurd k n10, fun _ => ⟨o1, fun k => absurd k n10, fun _ => ⟨o2, fun k => absurd k s1, fun _ => x2⟩⟩⟩, x3⟩
end PER
