/-! PURE PART. remove, the call -/
section RMS
variable {N : CS} {S : CS} {B : Nat}
def remN (N : CS) (a : Int32) : CS := if f_X5_isRoot N a = true then (if f_X5_isKept N a = true then f_X5_addRoot N (f_X5_sourceOf N a) else N) else N
theorem rem_fin (h : OKB N (S.2 0) B) {v : Nat} (hv : rP (S.2 0) v) (v0 : 0 < v) (leaf : ∀ w, rP (S.2 0) w → 0 < w → rU (S.2 0) w ≠ v) {S0 N1 : CS} (cS : chg S S0) (e : ∀ j, j ≠ 13 * rU (S.2 0) v + 3 → S0.2 0 j = S.2 0 j) (e3 : (rR (S.2 0) v ∧ rH (S.2 0) v = true → S0.2 0 (13 * rU (S.2 0) v + 3) = 1) ∧ (¬ (rR (S.2 0) v ∧ rH (S.2 0) v = true) → S0.2 0 (13 * rU (S.2 0) v + 3) = S.2 0 (13 * rU (S.2 0) v + 3))) (n1 : ∀ j, j ≠ 2 → N1.1 j = N.1 j) (n2 : N1.2 = N.2) (n3 : ∀ i, i < 32 → (bt (N1.1 2) i = true ↔ (rR (S.2 0) i ∨ ((rR (S.2 0) v ∧ rH (S.2 0) v = true) ∧ i = rU (S.2 0) v)))) : ∃ Z, l_X7_removes_69 (nI v) 14 S0 0 = (f_X5_howMany (f_X5_drop N1 (nI v)), Z) ∧ ol_X7_removes_69 (nI v) 14 S0 0 ∧ chg S Z ∧ OKB (f_X5_drop N1 (nI v)) (Z.2 0) B := by
  have v24 := hv.1
  have uv : rU (S.2 0) v ≠ v := by
    obtain ⟨r, hr⟩ := h.1.2.2.2
    have := hr v v0 hv
    intro q
    rw [q] at this
    omega
  obtain ⟨Z, r1, r2, r3, r4, r5, r6⟩ := rem_l v24 14 0 S0 (by decide) (by decide)
  have H : OKB (f_X5_drop N1 (nI v)) (Z.2 0) B := by
    refine h.removed hv v0 leaf (fun k hk => r4 k (Nat.zero_le _) hk) (fun j a b c => ?_) ⟨fun f => ?_, fun f => ?_⟩ n1 n2 n3
    · rw [r3 j (by omega)]
      exact e j c
    · rw [r3 _ (by omega)]
      exact e3.1 f
    · rw [r3 _ (by omega)]
      exact e3.2 f
  have ev : f_X5_howMany (f_X5_drop N1 (nI v)) = f_X7_versions Z 0 := many_n H.2.2.1
  refine ⟨Z, ?_, r6, cS.trans ⟨fun j _ _ => congrFun r1 j, fun j a _ => r2 j a⟩, H⟩
  rw [r5, ev]
theorem remb_m (m : Nat) (S : CS) (a : Int32) {R : Int32 × CS} (h : l_X7_removes_69 a m S 0 = R) (o : ol_X7_removes_69 a m S 0) : l_X7_removes_69b a m S 0 = R ∧ ol_X7_removes_69b a m S 0 := ⟨(remb a m 0 S).1.trans h, by rw [(remb a m 0 S).2]; exact o⟩
theorem remc_m (m : Nat) (S : CS) (a : Int32) {R : Int32 × CS} (h : l_X7_removes_69 a m S 0 = R) (o : ol_X7_removes_69 a m S 0) : l_X7_removes_69c a m S 0 = R ∧ ol_X7_removes_69c a m S 0 := ⟨(remc a m 0 S).1.trans h, by rw [(remc a m 0 S).2]; exact o⟩
/-- what the reference's remove does behind its checks -/
theorem rem_m (m : Nat) {S : CS} {a1 : Int32} (q2 : o_X7_isVersion S a1) (q3 : f_X7_isVersion S a1 = true) (q0 : ¬ a1 = 0) (om : o_X7_madeOf S a1) (nm : ¬ 0 < f_X7_madeOf S a1) (i3 : vp_in (f_X7_of a1 3) 318) (oh : o_X7_hangs S a1) (i1 : vp_in (f_X7_of a1 1) 318) (is : f_X7_hangs S a1 = true → vp_in (f_X7_of ((S.2 0) ((f_X7_of a1 1)).toNatClampNeg) 3) 318) : (if (f_X7_isVersion S a1) = true then (if a1 = 0 then ((-4 : Int32), S) else (if 0 < (f_X7_madeOf S a1) then ((-4), S) else (if ((S.2 0) ((f_X7_of a1 3)).toNatClampNeg) = 1 then (if (f_X7_hangs S a1) = true then (bind1 (setF S 0 (upd (S.2 0) ((f_X7_of ((S.2 0) ((f_X7_of a1 1)).toNatClampNeg) 3)).toNatClampNeg 1)) (fun z20 => (l_X7_removes_69c a1 m z20 0))) else (l_X7_removes_69b a1 m S 0)) else (l_X7_removes_69 a1 m S 0)))) else ((-1), S)) = (if ((S.2 0) ((f_X7_of a1 3)).toNatClampNeg) = 1 then (if (f_X7_hangs S a1) = true then (l_X7_removes_69c a1 m (setF S 0 (upd (S.2 0) ((f_X7_of ((S.2 0) ((f_X7_of a1 1)).toNatClampNeg) 3)).toNatClampNeg 1)) 0) else (l_X7_removes_69b a1 m S 0)) else (l_X7_removes_69 a1 m S 0)) ∧ ((((S.2 0) ((f_X7_of a1 3)).toNatClampNeg) = 1 → f_X7_hangs S a1 = true → ol_X7_removes_69c a1 m (setF S 0 (upd (S.2 0) ((f_X7_of ((S.2 0) ((f_X7_of a1 1)).toNatClampNeg) 3)).toNatClampNeg 1)) 0) → (((S.2 0) ((f_X7_of a1 3)).toNatClampNeg) = 1 → ¬ f_X7_hangs S a1 = true → ol_X7_removes_69b a1 m S 0) → (¬ ((S.2 0) ((f_X7_of a1 3)).toNatClampNeg) = 1 → ol_X7_removes_69 a1 m S 0) → ((o_X7_isVersion S a1) ∧ (((f_X7_isVersion S a1) = true → ((a1 = 0 → True) ∧ (¬ (a1 = 0) → ((o_X7_madeOf S a1) ∧ ((0 < (f_X7_madeOf S a1) → True) ∧ (¬ (0 < (f_X7_madeOf S a1)) → (vp_in (f_X7_of a1 3) 318 ∧ ((((S.2 0) ((f_X7_of a1 3)).toNatClampNeg) = 1 → ((o_X7_hangs S a1) ∧ (((f_X7_hangs S a1) = true → (vp_in (f_X7_of a1 1) 318 ∧ (vp_in (f_X7_of ((S.2 0) ((f_X7_of a1 1)).toNatClampNeg) 3) 318 ∧ (bind1 (setF S 0 (upd (S.2 0) ((f_X7_of ((S.2 0) ((f_X7_of a1 1)).toNatClampNeg) 3)).toNatClampNeg 1)) (fun z20 => (ol_X7_removes_69c a1 m z20 0)))))) ∧ (¬ (f_X7_hangs S a1) = true → (ol_X7_removes_69b a1 m S 0))))) ∧ (¬ ((S.2 0) ((f_X7_of a1 3)).toNatClampNeg) = 1 → (ol_X7_removes_69 a1 m S 0)))))))))) ∧ (¬ (f_X7_isVersion S a1) = true → True)))) := by
  rw [if_pos q3, if_neg q0, if_neg nm]
  exact ⟨rfl, fun x y z => ⟨q2, fun _ => ⟨fun _ => trivial, fun _ => ⟨om, fun _ => trivial, fun _ => ⟨i3, fun f => ⟨oh, fun g => ⟨i1, is g, x f g⟩, fun g => y f g⟩, fun f => z f⟩⟩⟩, fun _ => trivial⟩⟩
theorem t_remove (h : OKB N (S.2 0) B) {v : Nat} (hv : rP (S.2 0) v) (v0 : 0 < v) (leaf : ∀ w, rP (S.2 0) w → 0 < w → rU (S.2 0) w ≠ v) (nm : ¬ 0 < f_X7_madeOf S (nI v)) : o_X7_removes S (nI v) ∧ ∃ Z, f_X7_removes S (nI v) = (f_X5_howMany (f_X5_drop (remN N (nI v)) (nI v)), Z) ∧ chg S Z ∧ OKB (f_X5_drop (remN N (nI v)) (nI v)) (Z.2 0) B := by
  have K := h.toS
  have R := h.2.2.1
  have W := h.1
  have v24 := hv.1
  have hu := (W.2.2.1 v v0 hv).2
  have u24 := hu.1
  obtain ⟨q2, q3⟩ := ver_n (S := S) v24
  have q3 : f_X7_isVersion S (nI v) = true := q3.trans (decide_eq_true hv.2)
  obtain ⟨oh, eh⟩ := hangs_n (S := S) v24
  have om := (made_n K v24).1
  have q0 : ¬ nI v = 0 := nI_ne0 v0 (by omega)
  have sv := src_n W hv v0
  have is : vp_in (f_X7_of ((S.2 0) ((f_X7_of (nI v) 1)).toNatClampNeg) 3) 318 := by rw [cl1 v24, sv]; exact vi3 u24
  obtain ⟨me, mo⟩ := rem_m 14 q2 q3 q0 om nm (vi3 v24) oh (vi1 v24) (fun _ => is)
  have me : f_X7_removes S (nI v) = _ := me
  have mo : _ → _ → _ → o_X7_removes S (nI v) := mo
  rw [eh, cl3 v24, cl1 v24, sv, cl3 u24] at me mo
  have tr : tB (S.2 0) v = true ↔ S.2 0 (13 * v + 3) = 1 := by rw [tB_iff]; exact ⟨fun z => z.2, fun z => ⟨hv, z⟩⟩
  unfold remN
  rw [isroot_n R v24, kept_n R hv]
  by_cases a : S.2 0 (13 * v + 3) = 1
  · rw [if_pos (tr.mpr a)]
    rw [if_pos a] at me
    by_cases g : rH (S.2 0) v = true
    · rw [if_pos g, src_s R hv v0]
      rw [if_pos g] at me
      have f : rR (S.2 0) v ∧ rH (S.2 0) v = true := ⟨⟨hv, a⟩, g⟩
      obtain ⟨Z, z1, z2, z3, z4⟩ := rem_fin h hv v0 leaf (S0 := setF S 0 (upd (S.2 0) (13 * rU (S.2 0) v + 3) 1)) (N1 := f_X5_addRoot N (nI (rU (S.2 0) v))) ((chg.rf S).F _) (fun j hj => by rw [setF_s, pk_un hj]) ⟨fun _ => by rw [setF_s, pk_us], fun k => absurd f k⟩ (fun j hj => setI_n N _ hj) rfl (fun i hi => by
        show bt (N.1 2 ||| f_X4_of (nI (rU (S.2 0) v))) i = true ↔ _
        rw [bor_i u24 hi, t_i R hi]
        exact ⟨fun z => z.elim Or.inl (fun k => Or.inr ⟨f, k⟩), fun z => z.elim Or.inl (fun k => Or.inr k.2)⟩)
      obtain ⟨y1, y2⟩ := remc_m 14 _ _ z1 z2
      exact ⟨mo (fun _ _ => y2) (fun _ k => absurd g k) (fun k => absurd a k), Z, me.trans y1, z3, z4⟩
    · rw [if_neg g]
      rw [if_neg g] at me
      have f : ¬ (rR (S.2 0) v ∧ rH (S.2 0) v = true) := fun k => g k.2
      obtain ⟨Z, z1, z2, z3, z4⟩ := rem_fin h hv v0 leaf (S0 := S) (N1 := N) (chg.rf S) (fun _ _ => rfl) ⟨fun k => absurd k f, fun _ => rfl⟩ (fun _ _ => rfl) rfl (fun i hi => by
        rw [t_i R hi]
        exact ⟨Or.inl, fun z => z.elim id (fun k => absurd k.1 f)⟩)
      obtain ⟨y1, y2⟩ := remb_m 14 _ _ z1 z2
      exact ⟨mo (fun _ k => absurd k g) (fun _ _ => y2) (fun k => absurd a k), Z, me.trans y1, z3, z4⟩
  · rw [if_neg (fun k => a (tr.mp k))]
    rw [if_neg a] at me
    have f : ¬ (rR (S.2 0) v ∧ rH (S.2 0) v = true) := fun k => a k.1.2
    obtain ⟨Z, z1, z2, z3, z4⟩ := rem_fin h hv v0 leaf (S0 := S) (N1 := N) (chg.rf S) (fun _ _ => rfl) ⟨fun k => absurd k f, fun _ => rfl⟩ (fun _ _ => rfl) rfl (fun i hi => by
      rw [t_i R hi]
      exact ⟨Or.inl, fun z => z.elim id (fun k => absurd k.1 f)⟩)
    exact ⟨mo (fun k => absurd k a) (fun k => absurd k a) (fun _ => z2), Z, me.trans z1, z3, z4⟩
end RMS
theorem sim_remove (M : CS) (N : CS) (F : CS) (P : CS) (Q : HS) (E : CS) (O : CS) (S : CS) (n : Nat) (a1 : Int32) (h : REL M N F P Q E O S n) (hn : n < 512) : (o_X6_remove M N F Q a1) ∧ (o_X7_remove S a1) ∧ (f_X6_remove M N F Q a1).1 = (f_X7_remove S a1).1 ∧ REL M ((f_X6_remove M N F Q a1).2.1) ((f_X6_remove M N F Q a1).2.2.1) P ((f_X6_remove M N F Q a1).2.2.2) E O ((f_X7_remove S a1).2) (n + 1) := by
  have HB := relB h
  have K := HB.toS
  have R := HB.2.2.1
  have W := HB.1
  have bad : ∀ c : Int32, c < 0 → f_X7_removes (f_X7_putAside S) a1 = (c, f_X7_putAside S) → o_X7_removes (f_X7_putAside S) a1 → f_X6_remove M N F Q a1 = (c, N, F, Q) → o_X6_remove M N F Q a1 → (o_X6_remove M N F Q a1) ∧ (o_X7_remove S a1) ∧ (f_X6_remove M N F Q a1).1 = (f_X7_remove S a1).1 ∧ REL M ((f_X6_remove M N F Q a1).2.1) ((f_X6_remove M N F Q a1).2.2.1) P ((f_X6_remove M N F Q a1).2.2.2) E O ((f_X7_remove S a1).2) (n + 1) := by
    intro c hc e1 o1 e2 o2
    obtain ⟨x1, x2, x3⟩ := ref_bad h (r := fun z => f_X7_removes z a1) (oR := fun z => o_X7_removes z a1) hc o1 e1
    rw [e2]
    exact ⟨o2, x1, x2, x3⟩
  rcases ver_c K a1 with ⟨q1, q2, q3⟩ | ⟨v, hv, rfl, q1, q2, q3⟩
  · refine bad (-1) (by decide) ?_ ?_ ?_ ?_
    · unfold f_X7_removes
      rw [q3, if_neg (by decide)]
    · unfold o_X7_removes
      rw [q3]
      exact ⟨q2, fun k => (by cases k), fun _ => trivial⟩
    · unfold f_X6_remove
      rw [q1, if_neg (by decide)]
    · unfold o_X6_remove
      rw [q1]
      exact ⟨fun k => (by cases k), fun _ => trivial⟩
  · have v24 := hv.1
    have q : nI v = 0 ↔ v = 0 := nI_eq (b := 0) (by omega) (by decide)
    obtain ⟨om, em⟩ := made_n K v24
    by_cases c : v = 0
    · refine bad (-4) (by decide) ?_ ?_ ?_ ?_
      · unfold f_X7_removes
        rw [q3, if_pos rfl, if_pos (q.mpr c)]
      · unfold o_X7_removes
        exact ⟨q2, fun _ => ⟨fun _ => trivial, fun k => absurd (q.mpr c) k⟩, fun _ => trivial⟩
      · unfold f_X6_remove
        rw [q1, if_pos rfl, if_pos (q.mpr c)]
      · unfold o_X6_remove
        exact ⟨fun _ => ⟨fun _ => trivial, fun k => absurd (q.mpr c) k⟩, fun _ => trivial⟩
    · have qc : ¬ nI v = 0 := fun z => c (q.mp z)
      by_cases g : 0 < f_X7_madeOf (f_X7_putAside S) (nI v)
      · have g' : 0 < f_X5_madeOf N (nI v) := by rw [em]; exact g
        refine bad (-4) (by decide) ?_ ?_ ?_ ?_
        · unfold f_X7_removes
          rw [q3, if_pos rfl, if_neg qc, if_pos g]
        · unfold o_X7_removes
          exact ⟨q2, fun _ => ⟨fun k => absurd k qc, fun _ => ⟨om, fun _ => trivial, fun k => absurd g k⟩⟩, fun _ => trivial⟩
        · unfold f_X6_remove
          rw [q1, if_pos rfl, if_neg qc, if_pos g']
        · unfold o_X6_remove
          exact ⟨fun _ => ⟨fun k => absurd k qc, fun _ => ⟨fun _ => trivial, fun k => absurd g' k⟩⟩, fun _ => trivial⟩
      · have g' : ¬ 0 < f_X5_madeOf N (nI v) := by rw [em]; exact g
        obtain ⟨k, k1, k2, k3⟩ := leaf_n R v24 W
        have k0 : k = 0 := by
          rw [k2] at g'
          rcases Nat.eq_zero_or_pos k with z | z
          · exact z
          · exact absurd ((nI_ltI (a := 0) (by decide) (by omega)).mpr z) g'
        obtain ⟨o1, Z, e1, cz, H⟩ := t_remove HB hv (by omega) (k3 k0) g
        obtain ⟨x1, x2, x3, x4⟩ := ref_good h (r := fun z => f_X7_removes z (nI v)) (oR := fun z => o_X7_removes z (nI v)) (show 50 * n ≤ 50 * (n + 1) by omega) o1 e1 cz H E
        have e2 : f_X6_remove M N F Q (nI v) = ((f_X6_endAct M (f_X5_copyFrom F N) Q (f_X5_howMany (f_X5_drop (remN N (nI v)) (nI v)))).1, f_X5_drop (remN N (nI v)) (nI v), f_X5_copyFrom F N, (f_X6_endAct M (f_X5_copyFrom F N) Q (f_X5_howMany (f_X5_drop (remN N (nI v)) (nI v)))).2) ∧ o_X6_remove M N F Q (nI v) := by
          unfold f_X6_remove o_X6_remove
          rw [q1, if_pos rfl, if_neg qc, if_neg g']
          unfold f_X6_beginAct
          simp only [bind1]
          unfold remN at x2 ⊢
          by_cases a : f_X5_isRoot N (nI v) = true
          · by_cases b : f_X5_isKept N (nI v) = true
            · rw [if_pos a, if_pos b] at x2
              simp only [if_pos a, if_pos b]
              exact ⟨trivial, fun _ => ⟨fun k => absurd k qc, fun _ => ⟨fun k => absurd k g', fun _ => ⟨fun _ => ⟨fun _ => ⟨x2, trivial⟩, fun k => absurd b k⟩, fun k => absurd a k⟩⟩⟩, fun _ => trivial⟩
            · rw [if_pos a, if_neg b] at x2
              simp only [if_pos a, if_neg b]
              exact ⟨trivial, fun _ => ⟨fun k => absurd k qc, fun _ => ⟨fun k => absurd k g', fun _ => ⟨fun _ => ⟨fun k => absurd k b, fun _ => ⟨x2, trivial⟩⟩, fun k => absurd a k⟩⟩⟩, fun _ => trivial⟩
          · rw [if_neg a] at x2
            simp only [if_neg a]
            exact ⟨trivial, fun _ => ⟨fun k => absurd k qc, fun _ => ⟨fun k => absurd k g', fun _ => ⟨fun k => absurd k a, fun _ => ⟨x2, trivial⟩⟩⟩⟩, fun _ => trivial⟩
        obtain ⟨e2, o2⟩ := e2
        rw [e2]
        exact ⟨o2, x1, x3, x4⟩
