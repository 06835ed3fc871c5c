def GQ (N : CS) (Q : HS) (n : Nat) : Prop := sorry
def LV (N : CS) (a : Int32) : Prop := ∃ x, x < 24 ∧ a = nI x ∧ N.1 0 = N.1 0
theorem gq_init : GQ initSt initHS 0 := sorry
theorem pick_ok (M N E : CS) {Q : HS} {n : Nat} (h : GQ N Q n) (v : Int32) : o_L_pick M N E v ∧ LV N (f_L_pick M N E v).1 := sorry
theorem does_ok (M N F : CS) (Q : HS) (E O : CS) {n : Nat} (h : GQ N Q n) (hn : n < 54) (v : Int32) : o_L_does M N F Q E O v ∧ ¬ (f_L_does M N F Q E O v).1 < 0 ∧ GQ (f_L_does M N F Q E O v).2.1 (f_L_does M N F Q E O v).2.2.2.1 (n + 1) := sorry
theorem isSo_ok (M N : CS) {Q : HS} (E O : CS) {n : Nat} (h : GQ N Q n) (hn : n ≤ 54) : (f_L_isSo M N Q E O).1 = true := sorry
theorem isWaySo_ok (M N E : CS) {Q : HS} {n : Nat} (h : GQ N Q n) {a : Int32} (ha : LV N a) : o_L_isWaySo M N E a ∧ (f_L_isWaySo M N E a).1 = true := sorry
theorem isAskSo_ok (M N F : CS) (Q : HS) (E O : CS) {n : Nat} (h : GQ N Q n) (hn : n ≤ 54) {a : Int32} (ha : LV N a) : o_L_isAskSo M N F Q E O a ∧ (f_L_isAskSo M N F Q E O a).1 = true ∧ GQ (f_L_isAskSo M N F Q E O a).2.1 (f_L_isAskSo M N F Q E O a).2.2.2.1 n ∧ ∀ b, LV N b → LV (f_L_isAskSo M N F Q E O a).2.1 b := sorry
theorem areIfsSo_ok (M N F : CS) (Q : HS) (E O : CS) {n : Nat} (h : GQ N Q n) (hn : n ≤ 54) {a b : Int32} (ha : LV N a) (hb : LV N b) : o_L_areIfsSo M N F Q E O a b ∧ (f_L_areIfsSo M N F Q E O a b).1 = true ∧ GQ (f_L_areIfsSo M N F Q E O a b).2.1 (f_L_areIfsSo M N F Q E O a b).2.2.2.1 n := sorry
