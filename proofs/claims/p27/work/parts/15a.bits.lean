/-! PURE PART. bits of an Int32 -/
def bt (x : Int32) (i : Nat) : Bool := x.toBitVec.getLsbD i
theorem bt_ext {x y : Int32} (h : ∀ i, i < 32 → bt x i = bt y i) : x = y := Int32.toBitVec_inj.mp (BitVec.eq_of_getLsbD_eq h)
theorem bt_or (x y : Int32) (i : Nat) : bt (x ||| y) i = (bt x i || bt y i) := by
  unfold bt
  rw [Int32.toBitVec_or, BitVec.getLsbD_or]
theorem bt_and (x y : Int32) (i : Nat) : bt (x &&& y) i = (bt x i && bt y i) := by
  unfold bt
  rw [Int32.toBitVec_and, BitVec.getLsbD_and]
theorem bt_m1 {i : Nat} (h : i < 32) : bt (-1) i = true := by
  have e : ((-1 : Int32)).toBitVec = BitVec.allOnes 32 := by decide
  unfold bt
  rw [e, BitVec.getLsbD_allOnes]
  simp [h]
theorem bt_not {x : Int32} {i : Nat} (h : i < 32) : bt (x ^^^ (-1)) i = !bt x i := by
  have e := bt_m1 h
  unfold bt at *
  rw [Int32.toBitVec_xor, BitVec.getLsbD_xor, e]
  simp
theorem bt_0 (i : Nat) : bt 0 i = false := by
  have e : ((0 : Int32)).toBitVec = 0#32 := by decide
  unfold bt
  rw [e]
  simp
theorem bt_nI {n i : Nat} (h : i < 32) : bt (nI n) i = n.testBit i := by
  unfold bt
  rw [show (nI n).toBitVec = BitVec.ofNat 32 n from rfl, BitVec.getLsbD_ofNat]
  simp [h]
theorem of_nI {v : Nat} (h : v < 32) : f_X4_of (nI v) = nI (2 ^ v) := by
  have : ∀ v : Fin 32, f_X4_of (nI v.1) = nI (2 ^ v.1) := by decide +kernel
  exact this ⟨v, h⟩
theorem bt_of {v i : Nat} (hv : v < 32) (hi : i < 32) : bt (f_X4_of (nI v)) i = decide (i = v) := by
  rw [of_nI hv, bt_nI hi, Nat.testBit_two_pow]
  simp [eq_comm]
theorem isIn_nI {x : Int32} {v : Nat} (h : v < 24) : f_X4_isIn x (nI v) = bt x v := by
  have h1 : ¬ nI v < 0 := nI_pos (by omega)
  have h2 : nI v < 24 := nI_lt h (by decide)
  have h3 : (ushr x (nI v) &&& 1) = nI (x.toBitVec.toNat / 2 ^ v % 2) := by
    rw [pk_and _ 1 (by decide), ushr, pk_ushr x (nI v) v]
    have : ∀ v : Fin 32, (((nI v.1).toUInt32 &&& Int32.toUInt32 31).toBitVec % 32).toNat = v.1 := by decide +kernel
    exact this ⟨v, by omega⟩
  have h4 : bt x v = decide (x.toBitVec.toNat / 2 ^ v % 2 = 1) := by
    show x.toBitVec.getLsbD v = _
    rw [BitVec.getLsbD, Nat.testBit_eq_decide_div_mod_eq]
  unfold f_X4_isIn
  rw [if_neg h1, if_pos h2, h3, h4]
  rcases Nat.mod_two_eq_zero_or_one (x.toBitVec.toNat / 2 ^ v) with e | e
  · rw [e, if_pos (by decide)]
    simp
  · rw [e, if_neg (by decide)]
    simp
theorem isIn_lo {x a : Int32} (h : a < 0) : f_X4_isIn x a = false := by
  unfold f_X4_isIn
  rw [if_pos h]
theorem isIn_hi {x a : Int32} (h : ¬ a < 24) : f_X4_isIn x a = false := by
  unfold f_X4_isIn
  split
  · rfl
  · first | rw [if_neg h] | rfl
/-! counting -/
def cntB (p : Nat → Bool) : Nat → Nat
  | 0 => 0
  | n + 1 => cntB p n + (if p n then 1 else 0)
theorem cntB_le (p : Nat → Bool) : ∀ n, cntB p n ≤ n
  | 0 => Nat.le_refl _
  | n + 1 => by
    have := cntB_le p n
    rw [cntB]
    split <;> omega
theorem cntB_congr {p q : Nat → Bool} : ∀ {n : Nat}, (∀ i, i < n → p i = q i) → cntB p n = cntB q n
  | 0, _ => rfl
  | n + 1, h => by
    rw [cntB, cntB, cntB_congr (fun i hi => h i (by omega)), h n (by omega)]
theorem cntB_mono {p q : Nat → Bool} : ∀ {n : Nat}, (∀ i, i < n → p i = true → q i = true) → cntB p n ≤ cntB q n
  | 0, _ => Nat.le_refl _
  | n + 1, h => by
    have h1 := cntB_mono (p := p) (q := q) (n := n) (fun i hi => h i (by omega))
    have h2 := h n (by omega)
    rw [cntB, cntB]
    by_cases e : p n = true
    · rw [if_pos e, if_pos (h2 e)]; omega
    · rw [if_neg e]; omega
theorem cntB_lt {p q : Nat → Bool} {n k : Nat} (hk : k < n) (h : ∀ i, i < n → p i = true → q i = true) (h1 : p k = false) (h2 : q k = true) : cntB p n < cntB q n := by
  induction n with
  | zero => omega
  | succ n ih =>
    rw [cntB, cntB]
    by_cases e : k = n
    · subst e
      rw [h1, h2]
      have := cntB_mono (p := p) (q := q) (n := k) (fun i hi => h i (by omega))
      simp; omega
    · have h3 := ih (by omega) (fun i hi => h i (by omega))
      by_cases e2 : p n = true
      · rw [if_pos e2, if_pos (h n (by omega) e2)]; omega
      · rw [if_neg e2]; omega
theorem cntB_add (p : Nat → Bool) (a : Nat) : ∀ b, cntB p (a + b) = cntB p a + cntB (fun i => p (a + i)) b
  | 0 => rfl
  | b + 1 => by
    show cntB p (a + b) + (if p (a + b) then 1 else 0) = cntB p a + (cntB (fun i => p (a + i)) b + (if p (a + b) then 1 else 0))
    rw [cntB_add p a b, Nat.add_assoc]
/-- the library's count of bits, over its three low bytes -/
theorem and_byte (x y : Nat) : x &&& y = (x % 256 &&& y % 256) + 256 * (x / 256 &&& y / 256) := by
  have h1 : (x &&& y) % 256 = x % 256 &&& y % 256 := Nat.and_mod_two_pow (n := 8)
  have h2 : (x &&& y) / 256 = x / 256 &&& y / 256 := Nat.and_div_two_pow (n := 8)
  have := Nat.div_add_mod (x &&& y) 256
  omega
theorem nI_and {a b : Nat} (ha : a < 2 ^ 32) (hb : b < 2 ^ 32) : nI a &&& nI b = nI (a &&& b) := by
  refine Int32.toBitVec_inj.mp (BitVec.eq_of_toNat_eq ?_)
  rw [Int32.toBitVec_and, BitVec.toNat_and, pk_tn ha, pk_tn hb, pk_tn (Nat.lt_of_le_of_lt Nat.and_le_left ha)]
def s1 (a : Nat) : Nat := a - (a / 2 &&& 85)
def s2 (a : Nat) : Nat := (s1 a &&& 51) + (s1 a / 4 &&& 51)
def s3 (a : Nat) : Nat := (s2 a + s2 a / 16) &&& 15
theorem s_b : ∀ a : Nat, a < 256 → (a / 2 &&& 85) ≤ a ∧ s1 a < 256 ∧ (∀ y, y < 2 → ((a / 2 + 128 * y) &&& 85) = (a / 2 &&& 85)) ∧ (∀ y, y < 4 → ((s1 a / 4 + 64 * y) &&& 51) = (s1 a / 4 &&& 51)) ∧ (s2 a ≤ 68 ∧ s2 a % 16 ≤ 4) ∧ (∀ y, y < 16 → ((s2 a + (s2 a / 16 + 16 * y)) % 256 &&& 15) = s3 a) ∧ s3 a = cntB (fun i => a.testBit i) 8 ∧ s3 a ≤ 8 := by
  have h : ∀ a : Fin 256, (a.1 / 2 &&& 85) ≤ a.1 ∧ s1 a.1 < 256 ∧ (∀ y : Fin 2, ((a.1 / 2 + 128 * y.1) &&& 85) = (a.1 / 2 &&& 85)) ∧ (∀ y : Fin 4, ((s1 a.1 / 4 + 64 * y.1) &&& 51) = (s1 a.1 / 4 &&& 51)) ∧ (s2 a.1 ≤ 68 ∧ s2 a.1 % 16 ≤ 4) ∧ (∀ y : Fin 16, ((s2 a.1 + (s2 a.1 / 16 + 16 * y.1)) % 256 &&& 15) = s3 a.1) ∧ s3 a.1 = cntB (fun i => a.1.testBit i) 8 ∧ s3 a.1 ≤ 8 := by decide +kernel
  intro a ha
  obtain ⟨h1, h2, h3, h4, h5, h6, h7, h8⟩ := h ⟨a, ha⟩
  exact ⟨h1, h2, fun y hy => h3 ⟨y, hy⟩, fun y hy => h4 ⟨y, hy⟩, h5, fun y hy => h6 ⟨y, hy⟩, h7, h8⟩
theorem bc_1 {a b c : Nat} (ha : a < 256) (hb : b < 256) (hc : c < 256) : (a + 256 * (b + 256 * c)) / 2 &&& 1431655765 = (a / 2 &&& 85) + 256 * ((b / 2 &&& 85) + 256 * (c / 2 &&& 85)) := by
  obtain ⟨-, -, a3, -⟩ := s_b a ha
  obtain ⟨-, -, b3, -⟩ := s_b b hb
  rw [and_byte, show (a + 256 * (b + 256 * c)) / 2 % 256 = a / 2 + 128 * (b % 2) by omega, show (a + 256 * (b + 256 * c)) / 2 / 256 = (b + 256 * c) / 2 by omega, show 1431655765 % 256 = 85 from rfl, show 1431655765 / 256 = 5592405 from rfl, a3 _ (by omega), and_byte ((b + 256 * c) / 2), show (b + 256 * c) / 2 % 256 = b / 2 + 128 * (c % 2) by omega, show (b + 256 * c) / 2 / 256 = c / 2 by omega, show 5592405 % 256 = 85 from rfl, show 5592405 / 256 = 21845 from rfl, b3 _ (by omega), and_byte (c / 2), show c / 2 % 256 = c / 2 by omega, show c / 2 / 256 = 0 by omega, show 21845 % 256 = 85 from rfl, Nat.zero_and]
  omega
theorem bc_2 {A B C : Nat} (ha : A < 256) (hb : B < 256) (hc : C < 256) : (A + 256 * (B + 256 * C)) &&& 858993459 = (A &&& 51) + 256 * ((B &&& 51) + 256 * (C &&& 51)) := by
  rw [and_byte, show (A + 256 * (B + 256 * C)) % 256 = A by omega, show (A + 256 * (B + 256 * C)) / 256 = B + 256 * C by omega, show 858993459 % 256 = 51 from rfl, show 858993459 / 256 = 3355443 from rfl, and_byte (B + 256 * C), show (B + 256 * C) % 256 = B by omega, show (B + 256 * C) / 256 = C by omega, show 3355443 % 256 = 51 from rfl, show 3355443 / 256 = 13107 from rfl, and_byte C, show C % 256 = C by omega, show C / 256 = 0 by omega, show 13107 % 256 = 51 from rfl, Nat.zero_and]
  omega
theorem bc_3 {a b c : Nat} (ha : a < 256) (hb : b < 256) (hc : c < 256) : (s1 a + 256 * (s1 b + 256 * s1 c)) / 4 &&& 858993459 = (s1 a / 4 &&& 51) + 256 * ((s1 b / 4 &&& 51) + 256 * (s1 c / 4 &&& 51)) := by
  obtain ⟨-, a2, -, a4, -⟩ := s_b a ha
  obtain ⟨-, b2, -, b4, -⟩ := s_b b hb
  obtain ⟨-, c2, -⟩ := s_b c hc
  rw [and_byte, show (s1 a + 256 * (s1 b + 256 * s1 c)) / 4 % 256 = s1 a / 4 + 64 * (s1 b % 4) by omega, show (s1 a + 256 * (s1 b + 256 * s1 c)) / 4 / 256 = (s1 b + 256 * s1 c) / 4 by omega, show 858993459 % 256 = 51 from rfl, show 858993459 / 256 = 3355443 from rfl, a4 _ (by omega), and_byte ((s1 b + 256 * s1 c) / 4), show (s1 b + 256 * s1 c) / 4 % 256 = s1 b / 4 + 64 * (s1 c % 4) by omega, show (s1 b + 256 * s1 c) / 4 / 256 = s1 c / 4 by omega, show 3355443 % 256 = 51 from rfl, show 3355443 / 256 = 13107 from rfl, b4 _ (by omega), and_byte (s1 c / 4), show s1 c / 4 % 256 = s1 c / 4 by omega, show s1 c / 4 / 256 = 0 by omega, show 13107 % 256 = 51 from rfl, Nat.zero_and]
  omega
theorem bc_4 {a b c : Nat} (ha : a < 256) (hb : b < 256) (hc : c < 256) : ((s2 a + 256 * (s2 b + 256 * s2 c)) + (s2 a + 256 * (s2 b + 256 * s2 c)) / 16) &&& 252645135 = s3 a + 256 * (s3 b + 256 * s3 c) := by
  obtain ⟨-, -, -, -, ⟨a5, a5'⟩, a6, -⟩ := s_b a ha
  obtain ⟨-, -, -, -, ⟨b5, b5'⟩, b6, -⟩ := s_b b hb
  obtain ⟨-, -, -, -, ⟨c5, c5'⟩, c6, -⟩ := s_b c hc
  have a7 := a6 (s2 b % 16) (by omega)
  have b7 := b6 (s2 c % 16) (by omega)
  have c7 := c6 0 (by omega)
  rw [Nat.mod_eq_of_lt (by omega)] at a7 b7 c7
  have e : (s2 a + 256 * (s2 b + 256 * s2 c)) + (s2 a + 256 * (s2 b + 256 * s2 c)) / 16 = (s2 a + (s2 a / 16 + 16 * (s2 b % 16))) + 256 * ((s2 b + (s2 b / 16 + 16 * (s2 c % 16))) + 256 * (s2 c + (s2 c / 16 + 16 * 0))) := by omega
  rw [e, ← a7, ← b7, ← c7]
  generalize hA : s2 a + (s2 a / 16 + 16 * (s2 b % 16)) = A
  generalize hB : s2 b + (s2 b / 16 + 16 * (s2 c % 16)) = B
  generalize hC : s2 c + (s2 c / 16 + 16 * 0) = C
  rw [and_byte, show (A + 256 * (B + 256 * C)) % 256 = A by omega, show (A + 256 * (B + 256 * C)) / 256 = B + 256 * C by omega, show 252645135 % 256 = 15 from rfl, show 252645135 / 256 = 986895 from rfl, and_byte (B + 256 * C), show (B + 256 * C) % 256 = B by omega, show (B + 256 * C) / 256 = C by omega, show 986895 % 256 = 15 from rfl, show 986895 / 256 = 3855 from rfl, and_byte C, show C % 256 = C by omega, show C / 256 = 0 by omega, show 3855 % 256 = 15 from rfl, Nat.zero_and]
  omega
theorem ushr_nI {n : Nat} (hn : n < 2 ^ 32) (s : Int32) (k : Nat) (hs : ((s.toUInt32 &&& Int32.toUInt32 31).toBitVec % 32).toNat = k) : ushr (nI n) s = nI (n / 2 ^ k) := pk_ushrN hn s k hs
theorem bitCount_nat {a b c : Nat} (ha : a < 256) (hb : b < 256) (hc : c < 256) : f_J6_bitCount_0f7a4 (nI (a + 256 * (b + 256 * c))) = nI (s3 a + s3 b + s3 c) := by
  obtain ⟨a1, a2, -, -, ⟨a5, -⟩, -, -, a8⟩ := s_b a ha
  obtain ⟨b1, b2, -, -, ⟨b5, -⟩, -, -, b8⟩ := s_b b hb
  obtain ⟨c1, c2, -, -, ⟨c5, -⟩, -, -, c8⟩ := s_b c hc
  have e1 : nI (a + 256 * (b + 256 * c)) - ((ushr (nI (a + 256 * (b + 256 * c))) 1) &&& 1431655765) = nI (s1 a + 256 * (s1 b + 256 * s1 c)) := by
    rw [ushr_nI (by omega) 1 1 (by decide), show (1431655765 : Int32) = nI 1431655765 from rfl, nI_and (by omega) (by omega), Nat.pow_one, bc_1 ha hb hc, pk_sub (by omega)]
    congr 1
    show _ = (a - (a / 2 &&& 85)) + 256 * ((b - (b / 2 &&& 85)) + 256 * (c - (c / 2 &&& 85)))
    omega
  have e2 : (nI (s1 a + 256 * (s1 b + 256 * s1 c)) &&& 858993459) + ((ushr (nI (s1 a + 256 * (s1 b + 256 * s1 c))) 2) &&& 858993459) = nI (s2 a + 256 * (s2 b + 256 * s2 c)) := by
    rw [ushr_nI (by omega) 2 2 (by decide), show (858993459 : Int32) = nI 858993459 from rfl, nI_and (by omega) (by omega), nI_and (by omega) (by omega), bc_2 a2 b2 c2, show 2 ^ 2 = 4 from rfl, bc_3 ha hb hc, nI_add]
    congr 1
    show _ = ((s1 a &&& 51) + (s1 a / 4 &&& 51)) + 256 * (((s1 b &&& 51) + (s1 b / 4 &&& 51)) + 256 * ((s1 c &&& 51) + (s1 c / 4 &&& 51)))
    omega
  have e3 : (nI (s2 a + 256 * (s2 b + 256 * s2 c)) + (ushr (nI (s2 a + 256 * (s2 b + 256 * s2 c))) 4)) &&& 252645135 = nI (s3 a + 256 * (s3 b + 256 * s3 c)) := by
    rw [ushr_nI (by omega) 4 4 (by decide), show (252645135 : Int32) = nI 252645135 from rfl, nI_add, nI_and (by omega) (by omega), show 2 ^ 4 = 16 from rfl, bc_4 ha hb hc]
  have e4 : nI (s3 a + 256 * (s3 b + 256 * s3 c)) + ushr (nI (s3 a + 256 * (s3 b + 256 * s3 c))) 8 = nI ((s3 a + s3 b) + 256 * ((s3 b + s3 c) + 256 * s3 c)) := by
    rw [ushr_nI (by omega) 8 8 (by decide), nI_add]
    congr 1
    omega
  unfold f_J6_bitCount_0f7a4
  rw [e1, e2, e3, e4, ushr_nI (by omega) 16 16 (by decide), nI_add, show (s3 a + s3 b + 256 * (s3 b + s3 c + 256 * s3 c)) / 2 ^ 16 = s3 c by omega, pk_andN (by omega) 6 (by decide)]
  congr 1
  rw [show s3 a + s3 b + 256 * (s3 b + s3 c + 256 * s3 c) + s3 c = (s3 a + s3 b + s3 c) + 2 ^ 6 * (4 * (s3 b + s3 c + 256 * s3 c)) by omega, Nat.add_mul_mod_self_left, Nat.mod_eq_of_lt (by omega)]
theorem testBit_byte (a m : Nat) (ha : a < 256) (i : Nat) : (a + 256 * m).testBit i = if i < 8 then a.testBit i else m.testBit (i - 8) := by
  rw [show a + 256 * m = 2 ^ 8 * m + a by omega, Nat.testBit_two_pow_mul_add m (by omega)]
theorem bitCount_bt {x : Int32} (h : ∀ i, 24 ≤ i → i < 32 → bt x i = false) : f_J6_bitCount_0f7a4 x = nI (cntB (bt x) 24) := by
  have hx : x = nI x.toBitVec.toNat := by
    refine Int32.toBitVec_inj.mp (BitVec.eq_of_toNat_eq ?_)
    rw [pk_tn x.toBitVec.isLt]
  have hlt : x.toBitVec.toNat < 2 ^ 24 := by
    refine Nat.lt_pow_two_of_testBit _ (fun i hi => ?_)
    by_cases h2 : i < 32
    · exact h i hi h2
    · exact Nat.testBit_lt_two_pow (Nat.lt_of_lt_of_le x.toBitVec.isLt (Nat.pow_le_pow_right (by decide) (by omega)))
  have hb : ∀ i, i < 32 → bt x i = x.toBitVec.toNat.testBit i := fun i _ => rfl
  generalize x.toBitVec.toNat = n at hx hlt hb
  have e : n = n % 256 + 256 * (n / 256 % 256 + 256 * (n / 65536)) := by omega
  have h1 : n % 256 < 256 := by omega
  have h2 : n / 256 % 256 < 256 := by omega
  have h3 : n / 65536 < 256 := by omega
  generalize n % 256 = a at *
  generalize n / 256 % 256 = b at *
  generalize n / 65536 = c at *
  subst e
  rw [hx, bitCount_nat h1 h2 h3]
  congr 1
  obtain ⟨-, -, -, -, -, -, a7, -⟩ := s_b a h1
  obtain ⟨-, -, -, -, -, -, b7, -⟩ := s_b b h2
  obtain ⟨-, -, -, -, -, -, c7, -⟩ := s_b c h3
  rw [a7, b7, c7, show 24 = 8 + (8 + 8) from rfl, cntB_add, cntB_add, Nat.add_assoc]
  congr 1
  · refine cntB_congr (fun i hi => ?_)
    rw [← hx, hb i (by omega), testBit_byte _ _ h1, if_pos hi]
  · congr 1
    · refine cntB_congr (fun i hi => ?_)
      rw [← hx, hb _ (by omega), testBit_byte _ _ h1, if_neg (by omega), testBit_byte _ _ h2, if_pos (by omega)]
      congr 1; omega
    · refine cntB_congr (fun i hi => ?_)
      rw [← hx, hb _ (by omega), testBit_byte _ _ h1, if_neg (by omega), testBit_byte _ _ h2, if_neg (by omega)]
      congr 1; omega
theorem ntz_one {v : Nat} (h : v < 24) : f_J6_numberOfTrailingZeros_0f7a4 (nI (2 ^ v)) = nI v := by
  have : ∀ v : Fin 24, f_J6_numberOfTrailingZeros_0f7a4 (nI (2 ^ v.1)) = nI v.1 := by decide +kernel
  exact this ⟨v, h⟩
theorem ntz_bt {x : Int32} {v : Nat} (h : v < 24) (hx : ∀ i, i < 32 → bt x i = decide (i = v)) : f_J6_numberOfTrailingZeros_0f7a4 x = nI v := by
  have e : x = nI (2 ^ v) := bt_ext (fun i hi => by rw [hx i hi, ← of_nI (by omega), bt_of (by omega) hi])
  rw [e, ntz_one h]
