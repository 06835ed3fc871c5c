set_option maxRecDepth 100000 in
set_option maxHeartbeats 8000000 in
theorem law_op0 {k : KT} {post : Option Value → va_W → Prop} {cs sl : Nat} (C : Ck k RL cL_law (some .boolean) 12 600000 7302250 post) (B : Cw k) (hcs : cs ≤ 600000) (hsl : sl ≤ 7302250) {b N0 : Nat} {xs : Nat → Int32} (hX : va_X b N0 xs (ks k) (ks k).heap) (hb : b < (ks k).heap.size) (hbA : ¬ kA k b) {i : Nat} (hi4 : 4 * i + 4 ≤ N0) (hi2 : N0 ≤ 2048) (hi5 : i < 512) {h hm : Nat} {ad adN adF adP adQ adE adO adm : Nat → Nat} (M : CS) (N : CS) (F : CS) (P : CS) (Q : HS) (E : CS) (O : CS) (S : CS) (hrel : REL M N F P Q E O S i) (next : ∀ (M : CS) (N : CS) (F : CS) (P : CS) (Q : HS) (E : CS) (O : CS) (S : CS), REL M N F P Q E O S (i + 1) → X k cs sl (cat [wMa h ad M, wSt (kg k) (ad 0) adN N, wSt (kg k) (ad 1) adF F, wSt (kg k) (ad 2) adP P, wHi (kg k) (ad 4) adQ Q, wRe (kg k) (ad 5) adE E, wOr (kg k) (ad 6) adO O, wMo (kg k) hm adm S]) 748 [some (.ref b), some (.ref h), some (.ref hm), some (.int (nI (4 * i)))] []) : X k cs sl (cat [wMa h ad M, wSt (kg k) (ad 0) adN N, wSt (kg k) (ad 1) adF F, wSt (kg k) (ad 2) adP P, wHi (kg k) (ad 4) adQ Q, wRe (kg k) (ad 5) adE E, wOr (kg k) (ad 6) adO O, wMo (kg k) hm adm S]) 144 [some (.ref b), some (.ref h), some (.ref hm), some (.int (nI (4 * i)))] [] := by
  refine x_aload_n (pc' := 145) C dL_law_144 rfl rfl rfl ?_
  refine x_aload_n (pc' := 146) C dL_law_145 rfl rfl rfl ?_
  refine x_iload_n (pc' := 147) C dL_law_146 rfl rfl rfl ?_
  refine x_iconst (v := 1) (pc' := 148) C dL_law_147 rfl (by decide) ?_
  refine x_iadd (v := nI (4 * i + 1)) (pc' := 149) C dL_law_148 rfl (nI_add (4 * i) 1) ?_
  refine x_sld (j := 4 * i + 1) (pc' := 150) C hX hb hbA (by omega) (by omega) dL_law_149 rfl ?_
  refine x_aload_n (pc' := 151) C dL_law_150 rfl rfl rfl ?_
  refine x_iload_n (pc' := 152) C dL_law_151 rfl rfl rfl ?_
  refine x_iconst (v := 2) (pc' := 153) C dL_law_152 rfl (by decide) ?_
  refine x_iadd (v := nI (4 * i + 2)) (pc' := 154) C dL_law_153 rfl (nI_add (4 * i) 2) ?_
  refine x_sld (j := 4 * i + 2) (pc' := 155) C hX hb hbA (by omega) (by omega) dL_law_154 rfl ?_
  refine x_aload_n (pc' := 156) C dL_law_155 rfl rfl rfl ?_
  refine x_iload_n (pc' := 157) C dL_law_156 rfl rfl rfl ?_
  refine x_iconst (v := 3) (pc' := 158) C dL_law_157 rfl (by decide) ?_
  refine x_iadd (v := nI (4 * i + 3)) (pc' := 159) C dL_law_158 rfl (nI_add (4 * i) 3) ?_
  refine x_sld (j := 4 * i + 3) (pc' := 160) C hX hb hbA (by omega) (by omega) dL_law_159 rfl ?_
  obtain ⟨hox, hor, heq, hrel2⟩ := sim_make M N F P Q E O S i (xs (4 * i + 1)) (xs (4 * i + 2)) (xs (4 * i + 3)) hrel hi5
  obtain ⟨zx, ezx⟩ : ∃ z, z = (f_X6_make M N F Q (xs (4 * i + 1)) (xs (4 * i + 2)) (xs (4 * i + 3))) := ⟨_, rfl⟩
  obtain ⟨zr, ezr⟩ : ∃ z, z = (f_X7_make S (xs (4 * i + 1)) (xs (4 * i + 2)) (xs (4 * i + 3))) := ⟨_, rfl⟩
  rw [← ezx, ← ezr] at heq hrel2
  have hcx := c_X6_make (kl k) (kg k) h ad M adN N adF F adQ Q (xs (4 * i + 1)) (xs (4 * i + 2)) (xs (4 * i + 3)) hox
  rw [← ezx] at hcx
  refine x_catWV (st := []) (st2 := [.int zx.1]) (pc' := 163) (wcs := [wMa h ad M, wSt (kg k) (ad 0) adN N, wSt (kg k) (ad 1) adF F, wHi (kg k) (ad 4) adQ Q]) (wrs := [wSt (kg k) (ad 2) adP P, wRe (kg k) (ad 5) adE E, wOr (kg k) (ad 6) adO O, wMo (kg k) hm adm S]) (wcs' := [wMa h ad M, wSt (kg k) (ad 0) adN zx.2.1, wSt (kg k) (ad 1) adF zx.2.2.1, wHi (kg k) (ad 4) adQ zx.2.2.2]) C B [wMa h ad M, wSt (kg k) (ad 0) adN zx.2.1, wSt (kg k) (ad 1) adF zx.2.2.1, wSt (kg k) (ad 2) adP P, wHi (kg k) (ad 4) adQ zx.2.2.2, wRe (kg k) (ad 5) adE E, wOr (kg k) (ad 6) adO O, wMo (kg k) hm adm S] hcx rfl rfl cw_L_13 ok_X6_make rfl (by decide) rfl rfl [3, 5, 6, 7, 0, 1, 2, 4] [4, 5, 6, 0, 7, 1, 2, 3] rfl rfl rfl rfl rfl (Nat.le_of_ble_eq_true rfl) hcs hsl rfl dL_law_160 rfl rfl ?_
  refine x_aload_n (pc' := 164) C dL_law_163 rfl rfl rfl ?_
  refine x_aload_n (pc' := 165) C dL_law_164 rfl rfl rfl ?_
  refine x_iload_n (pc' := 166) C dL_law_165 rfl rfl rfl ?_
  refine x_iconst (v := 1) (pc' := 167) C dL_law_166 rfl (by decide) ?_
  refine x_iadd (v := nI (4 * i + 1)) (pc' := 168) C dL_law_167 rfl (nI_add (4 * i) 1) ?_
  refine x_sld (j := 4 * i + 1) (pc' := 169) C hX hb hbA (by omega) (by omega) dL_law_168 rfl ?_
  refine x_aload_n (pc' := 170) C dL_law_169 rfl rfl rfl ?_
  refine x_iload_n (pc' := 171) C dL_law_170 rfl rfl rfl ?_
  refine x_iconst (v := 2) (pc' := 172) C dL_law_171 rfl (by decide) ?_
  refine x_iadd (v := nI (4 * i + 2)) (pc' := 173) C dL_law_172 rfl (nI_add (4 * i) 2) ?_
  refine x_sld (j := 4 * i + 2) (pc' := 174) C hX hb hbA (by omega) (by omega) dL_law_173 rfl ?_
  refine x_aload_n (pc' := 175) C dL_law_174 rfl rfl rfl ?_
  refine x_iload_n (pc' := 176) C dL_law_175 rfl rfl rfl ?_
  refine x_iconst (v := 3) (pc' := 177) C dL_law_176 rfl (by decide) ?_
  refine x_iadd (v := nI (4 * i + 3)) (pc' := 178) C dL_law_177 rfl (nI_add (4 * i) 3) ?_
  refine x_sld (j := 4 * i + 3) (pc' := 179) C hX hb hbA (by omega) (by omega) dL_law_178 rfl ?_
  have hcr := c_X7_make (kl k) (kg k) hm adm S (xs (4 * i + 1)) (xs (4 * i + 2)) (xs (4 * i + 3)) hor
  rw [← ezr] at hcr
  refine x_catWV (st := [.int zx.1]) (st2 := [.int zr.1, .int zx.1]) (pc' := 182) (wcs := [wMo (kg k) hm adm S]) (wrs := [wMa h ad M, wSt (kg k) (ad 0) adN zx.2.1, wSt (kg k) (ad 1) adF zx.2.2.1, wSt (kg k) (ad 2) adP P, wHi (kg k) (ad 4) adQ zx.2.2.2, wRe (kg k) (ad 5) adE E, wOr (kg k) (ad 6) adO O]) (wcs' := [wMo (kg k) hm adm zr.2]) C B [wMa h ad M, wSt (kg k) (ad 0) adN zx.2.1, wSt (kg k) (ad 1) adF zx.2.2.1, wSt (kg k) (ad 2) adP P, wHi (kg k) (ad 4) adQ zx.2.2.2, wRe (kg k) (ad 5) adE E, wOr (kg k) (ad 6) adO O, wMo (kg k) hm adm zr.2] hcr (by simp only [cat, List.append_nil]) (by simp only [cat, List.append_nil]) cw_L_17 ok_X7_make rfl (by decide) rfl rfl [0, 1, 2, 3, 4, 5, 6, 7] [0, 1, 2, 3, 4, 5, 6, 7] rfl rfl rfl rfl rfl (Nat.le_of_ble_eq_true rfl) hcs hsl rfl dL_law_179 rfl rfl ?_
  refine x_icmp_eq (tgt := 748) (pc' := 185) C dL_law_182 (by decide) rfl (fun _ => ?_) (fun c => absurd heq c)
  exact next M zx.2.1 zx.2.2.1 P zx.2.2.2 E O zr.2 hrel2

set_option maxRecDepth 100000 in
set_option maxHeartbeats 8000000 in
theorem law_op1 {k : KT} {post : Option Value → va_W → Prop} {cs sl : Nat} (C : Ck k RL cL_law (some .boolean) 12 600000 7302250 post) (B : Cw k) (hcs : cs ≤ 600000) (hsl : sl ≤ 7302250) {b N0 : Nat} {xs : Nat → Int32} (hX : va_X b N0 xs (ks k) (ks k).heap) (hb : b < (ks k).heap.size) (hbA : ¬ kA k b) {i : Nat} (hi4 : 4 * i + 4 ≤ N0) (hi2 : N0 ≤ 2048) (hi5 : i < 512) {h hm : Nat} {ad adN adF adP adQ adE adO adm : Nat → Nat} (M : CS) (N : CS) (F : CS) (P : CS) (Q : HS) (E : CS) (O : CS) (S : CS) (hrel : REL M N F P Q E O S i) (next : ∀ (M : CS) (N : CS) (F : CS) (P : CS) (Q : HS) (E : CS) (O : CS) (S : CS), REL M N F P Q E O S (i + 1) → X k cs sl (cat [wMa h ad M, wSt (kg k) (ad 0) adN N, wSt (kg k) (ad 1) adF F, wSt (kg k) (ad 2) adP P, wHi (kg k) (ad 4) adQ Q, wRe (kg k) (ad 5) adE E, wOr (kg k) (ad 6) adO O, wMo (kg k) hm adm S]) 748 [some (.ref b), some (.ref h), some (.ref hm), some (.int (nI (4 * i)))] []) : X k cs sl (cat [wMa h ad M, wSt (kg k) (ad 0) adN N, wSt (kg k) (ad 1) adF F, wSt (kg k) (ad 2) adP P, wHi (kg k) (ad 4) adQ Q, wRe (kg k) (ad 5) adE E, wOr (kg k) (ad 6) adO O, wMo (kg k) hm adm S]) 187 [some (.ref b), some (.ref h), some (.ref hm), some (.int (nI (4 * i)))] [] := by
  refine x_aload_n (pc' := 188) C dL_law_187 rfl rfl rfl ?_
  refine x_aload_n (pc' := 189) C dL_law_188 rfl rfl rfl ?_
  refine x_iload_n (pc' := 190) C dL_law_189 rfl rfl rfl ?_
  refine x_iconst (v := 1) (pc' := 191) C dL_law_190 rfl (by decide) ?_
  refine x_iadd (v := nI (4 * i + 1)) (pc' := 192) C dL_law_191 rfl (nI_add (4 * i) 1) ?_
  refine x_sld (j := 4 * i + 1) (pc' := 193) C hX hb hbA (by omega) (by omega) dL_law_192 rfl ?_
  refine x_aload_n (pc' := 194) C dL_law_193 rfl rfl rfl ?_
  refine x_iload_n (pc' := 195) C dL_law_194 rfl rfl rfl ?_
  refine x_iconst (v := 2) (pc' := 196) C dL_law_195 rfl (by decide) ?_
  refine x_iadd (v := nI (4 * i + 2)) (pc' := 197) C dL_law_196 rfl (nI_add (4 * i) 2) ?_
  refine x_sld (j := 4 * i + 2) (pc' := 198) C hX hb hbA (by omega) (by omega) dL_law_197 rfl ?_
  refine x_aload_n (pc' := 199) C dL_law_198 rfl rfl rfl ?_
  refine x_iload_n (pc' := 200) C dL_law_199 rfl rfl rfl ?_
  refine x_iconst (v := 3) (pc' := 201) C dL_law_200 rfl (by decide) ?_
  refine x_iadd (v := nI (4 * i + 3)) (pc' := 202) C dL_law_201 rfl (nI_add (4 * i) 3) ?_
  refine x_sld (j := 4 * i + 3) (pc' := 203) C hX hb hbA (by omega) (by omega) dL_law_202 rfl ?_
  obtain ⟨hox, hor, heq, hrel2⟩ := sim_mix M N F P Q E O S i (xs (4 * i + 1)) (xs (4 * i + 2)) (xs (4 * i + 3)) hrel hi5
  obtain ⟨zx, ezx⟩ : ∃ z, z = (f_X6_mix M N F Q (xs (4 * i + 1)) (xs (4 * i + 2)) (xs (4 * i + 3))) := ⟨_, rfl⟩
  obtain ⟨zr, ezr⟩ : ∃ z, z = (f_X7_mix S (xs (4 * i + 1)) (xs (4 * i + 2)) (xs (4 * i + 3))) := ⟨_, rfl⟩
  rw [← ezx, ← ezr] at heq hrel2
  have hcx := c_X6_mix (kl k) (kg k) h ad M adN N adF F adQ Q (xs (4 * i + 1)) (xs (4 * i + 2)) (xs (4 * i + 3)) hox
  rw [← ezx] at hcx
  refine x_catWV (st := []) (st2 := [.int zx.1]) (pc' := 206) (wcs := [wMa h ad M, wSt (kg k) (ad 0) adN N, wSt (kg k) (ad 1) adF F, wHi (kg k) (ad 4) adQ Q]) (wrs := [wSt (kg k) (ad 2) adP P, wRe (kg k) (ad 5) adE E, wOr (kg k) (ad 6) adO O, wMo (kg k) hm adm S]) (wcs' := [wMa h ad M, wSt (kg k) (ad 0) adN zx.2.1, wSt (kg k) (ad 1) adF zx.2.2.1, wHi (kg k) (ad 4) adQ zx.2.2.2]) C B [wMa h ad M, wSt (kg k) (ad 0) adN zx.2.1, wSt (kg k) (ad 1) adF zx.2.2.1, wSt (kg k) (ad 2) adP P, wHi (kg k) (ad 4) adQ zx.2.2.2, wRe (kg k) (ad 5) adE E, wOr (kg k) (ad 6) adO O, wMo (kg k) hm adm S] hcx rfl rfl cw_L_18 ok_X6_mix rfl (by decide) rfl rfl [3, 5, 6, 7, 0, 1, 2, 4] [4, 5, 6, 0, 7, 1, 2, 3] rfl rfl rfl rfl rfl (Nat.le_of_ble_eq_true rfl) hcs hsl rfl dL_law_203 rfl rfl ?_
  refine x_aload_n (pc' := 207) C dL_law_206 rfl rfl rfl ?_
  refine x_aload_n (pc' := 208) C dL_law_207 rfl rfl rfl ?_
  refine x_iload_n (pc' := 209) C dL_law_208 rfl rfl rfl ?_
  refine x_iconst (v := 1) (pc' := 210) C dL_law_209 rfl (by decide) ?_
  refine x_iadd (v := nI (4 * i + 1)) (pc' := 211) C dL_law_210 rfl (nI_add (4 * i) 1) ?_
  refine x_sld (j := 4 * i + 1) (pc' := 212) C hX hb hbA (by omega) (by omega) dL_law_211 rfl ?_
  refine x_aload_n (pc' := 213) C dL_law_212 rfl rfl rfl ?_
  refine x_iload_n (pc' := 214) C dL_law_213 rfl rfl rfl ?_
  refine x_iconst (v := 2) (pc' := 215) C dL_law_214 rfl (by decide) ?_
  refine x_iadd (v := nI (4 * i + 2)) (pc' := 216) C dL_law_215 rfl (nI_add (4 * i) 2) ?_
  refine x_sld (j := 4 * i + 2) (pc' := 217) C hX hb hbA (by omega) (by omega) dL_law_216 rfl ?_
  refine x_aload_n (pc' := 218) C dL_law_217 rfl rfl rfl ?_
  refine x_iload_n (pc' := 219) C dL_law_218 rfl rfl rfl ?_
  refine x_iconst (v := 3) (pc' := 220) C dL_law_219 rfl (by decide) ?_
  refine x_iadd (v := nI (4 * i + 3)) (pc' := 221) C dL_law_220 rfl (nI_add (4 * i) 3) ?_
  refine x_sld (j := 4 * i + 3) (pc' := 222) C hX hb hbA (by omega) (by omega) dL_law_221 rfl ?_
  have hcr := c_X7_mix (kl k) (kg k) hm adm S (xs (4 * i + 1)) (xs (4 * i + 2)) (xs (4 * i + 3)) hor
  rw [← ezr] at hcr
  refine x_catWV (st := [.int zx.1]) (st2 := [.int zr.1, .int zx.1]) (pc' := 225) (wcs := [wMo (kg k) hm adm S]) (wrs := [wMa h ad M, wSt (kg k) (ad 0) adN zx.2.1, wSt (kg k) (ad 1) adF zx.2.2.1, wSt (kg k) (ad 2) adP P, wHi (kg k) (ad 4) adQ zx.2.2.2, wRe (kg k) (ad 5) adE E, wOr (kg k) (ad 6) adO O]) (wcs' := [wMo (kg k) hm adm zr.2]) C B [wMa h ad M, wSt (kg k) (ad 0) adN zx.2.1, wSt (kg k) (ad 1) adF zx.2.2.1, wSt (kg k) (ad 2) adP P, wHi (kg k) (ad 4) adQ zx.2.2.2, wRe (kg k) (ad 5) adE E, wOr (kg k) (ad 6) adO O, wMo (kg k) hm adm zr.2] hcr (by simp only [cat, List.append_nil]) (by simp only [cat, List.append_nil]) cw_L_21 ok_X7_mix rfl (by decide) rfl rfl [0, 1, 2, 3, 4, 5, 6, 7] [0, 1, 2, 3, 4, 5, 6, 7] rfl rfl rfl rfl rfl (Nat.le_of_ble_eq_true rfl) hcs hsl rfl dL_law_222 rfl rfl ?_
  refine x_icmp_eq (tgt := 748) (pc' := 228) C dL_law_225 (by decide) rfl (fun _ => ?_) (fun c => absurd heq c)
  exact next M zx.2.1 zx.2.2.1 P zx.2.2.2 E O zr.2 hrel2

set_option maxRecDepth 100000 in
set_option maxHeartbeats 8000000 in
theorem law_op2 {k : KT} {post : Option Value → va_W → Prop} {cs sl : Nat} (C : Ck k RL cL_law (some .boolean) 12 600000 7302250 post) (B : Cw k) (hcs : cs ≤ 600000) (hsl : sl ≤ 7302250) {b N0 : Nat} {xs : Nat → Int32} (hX : va_X b N0 xs (ks k) (ks k).heap) (hb : b < (ks k).heap.size) (hbA : ¬ kA k b) {i : Nat} (hi4 : 4 * i + 4 ≤ N0) (hi2 : N0 ≤ 2048) (hi5 : i < 512) {h hm : Nat} {ad adN adF adP adQ adE adO adm : Nat → Nat} (M : CS) (N : CS) (F : CS) (P : CS) (Q : HS) (E : CS) (O : CS) (S : CS) (hrel : REL M N F P Q E O S i) (next : ∀ (M : CS) (N : CS) (F : CS) (P : CS) (Q : HS) (E : CS) (O : CS) (S : CS), REL M N F P Q E O S (i + 1) → X k cs sl (cat [wMa h ad M, wSt (kg k) (ad 0) adN N, wSt (kg k) (ad 1) adF F, wSt (kg k) (ad 2) adP P, wHi (kg k) (ad 4) adQ Q, wRe (kg k) (ad 5) adE E, wOr (kg k) (ad 6) adO O, wMo (kg k) hm adm S]) 748 [some (.ref b), some (.ref h), some (.ref hm), some (.int (nI (4 * i)))] []) : X k cs sl (cat [wMa h ad M, wSt (kg k) (ad 0) adN N, wSt (kg k) (ad 1) adF F, wSt (kg k) (ad 2) adP P, wHi (kg k) (ad 4) adQ Q, wRe (kg k) (ad 5) adE E, wOr (kg k) (ad 6) adO O, wMo (kg k) hm adm S]) 230 [some (.ref b), some (.ref h), some (.ref hm), some (.int (nI (4 * i)))] [] := by
  refine x_aload_n (pc' := 231) C dL_law_230 rfl rfl rfl ?_
  refine x_aload_n (pc' := 232) C dL_law_231 rfl rfl rfl ?_
  refine x_iload_n (pc' := 233) C dL_law_232 rfl rfl rfl ?_
  refine x_iconst (v := 1) (pc' := 234) C dL_law_233 rfl (by decide) ?_
  refine x_iadd (v := nI (4 * i + 1)) (pc' := 235) C dL_law_234 rfl (nI_add (4 * i) 1) ?_
  refine x_sld (j := 4 * i + 1) (pc' := 236) C hX hb hbA (by omega) (by omega) dL_law_235 rfl ?_
  obtain ⟨hox, hor, heq, hrel2⟩ := sim_remove M N F P Q E O S i (xs (4 * i + 1)) hrel hi5
  obtain ⟨zx, ezx⟩ : ∃ z, z = (f_X6_remove M N F Q (xs (4 * i + 1))) := ⟨_, rfl⟩
  obtain ⟨zr, ezr⟩ : ∃ z, z = (f_X7_remove S (xs (4 * i + 1))) := ⟨_, rfl⟩
  rw [← ezx, ← ezr] at heq hrel2
  have hcx := c_X6_remove (kl k) (kg k) h ad M adN N adF F adQ Q (xs (4 * i + 1)) hox
  rw [← ezx] at hcx
  refine x_catWV (st := []) (st2 := [.int zx.1]) (pc' := 239) (wcs := [wMa h ad M, wSt (kg k) (ad 0) adN N, wSt (kg k) (ad 1) adF F, wHi (kg k) (ad 4) adQ Q]) (wrs := [wSt (kg k) (ad 2) adP P, wRe (kg k) (ad 5) adE E, wOr (kg k) (ad 6) adO O, wMo (kg k) hm adm S]) (wcs' := [wMa h ad M, wSt (kg k) (ad 0) adN zx.2.1, wSt (kg k) (ad 1) adF zx.2.2.1, wHi (kg k) (ad 4) adQ zx.2.2.2]) C B [wMa h ad M, wSt (kg k) (ad 0) adN zx.2.1, wSt (kg k) (ad 1) adF zx.2.2.1, wSt (kg k) (ad 2) adP P, wHi (kg k) (ad 4) adQ zx.2.2.2, wRe (kg k) (ad 5) adE E, wOr (kg k) (ad 6) adO O, wMo (kg k) hm adm S] hcx rfl rfl cw_L_22 ok_X6_remove rfl (by decide) rfl rfl [3, 5, 6, 7, 0, 1, 2, 4] [4, 5, 6, 0, 7, 1, 2, 3] rfl rfl rfl rfl rfl (Nat.le_of_ble_eq_true rfl) hcs hsl rfl dL_law_236 rfl rfl ?_
  refine x_aload_n (pc' := 240) C dL_law_239 rfl rfl rfl ?_
  refine x_aload_n (pc' := 241) C dL_law_240 rfl rfl rfl ?_
  refine x_iload_n (pc' := 242) C dL_law_241 rfl rfl rfl ?_
  refine x_iconst (v := 1) (pc' := 243) C dL_law_242 rfl (by decide) ?_
  refine x_iadd (v := nI (4 * i + 1)) (pc' := 244) C dL_law_243 rfl (nI_add (4 * i) 1) ?_
  refine x_sld (j := 4 * i + 1) (pc' := 245) C hX hb hbA (by omega) (by omega) dL_law_244 rfl ?_
  have hcr := c_X7_remove (kl k) (kg k) hm adm S (xs (4 * i + 1)) hor
  rw [← ezr] at hcr
  refine x_catWV (st := [.int zx.1]) (st2 := [.int zr.1, .int zx.1]) (pc' := 248) (wcs := [wMo (kg k) hm adm S]) (wrs := [wMa h ad M, wSt (kg k) (ad 0) adN zx.2.1, wSt (kg k) (ad 1) adF zx.2.2.1, wSt (kg k) (ad 2) adP P, wHi (kg k) (ad 4) adQ zx.2.2.2, wRe (kg k) (ad 5) adE E, wOr (kg k) (ad 6) adO O]) (wcs' := [wMo (kg k) hm adm zr.2]) C B [wMa h ad M, wSt (kg k) (ad 0) adN zx.2.1, wSt (kg k) (ad 1) adF zx.2.2.1, wSt (kg k) (ad 2) adP P, wHi (kg k) (ad 4) adQ zx.2.2.2, wRe (kg k) (ad 5) adE E, wOr (kg k) (ad 6) adO O, wMo (kg k) hm adm zr.2] hcr (by simp only [cat, List.append_nil]) (by simp only [cat, List.append_nil]) cw_L_26 ok_X7_remove rfl (by decide) rfl rfl [0, 1, 2, 3, 4, 5, 6, 7] [0, 1, 2, 3, 4, 5, 6, 7] rfl rfl rfl rfl rfl (Nat.le_of_ble_eq_true rfl) hcs hsl rfl dL_law_245 rfl rfl ?_
  refine x_icmp_eq (tgt := 748) (pc' := 251) C dL_law_248 (by decide) rfl (fun _ => ?_) (fun c => absurd heq c)
  exact next M zx.2.1 zx.2.2.1 P zx.2.2.2 E O zr.2 hrel2

set_option maxRecDepth 100000 in
set_option maxHeartbeats 8000000 in
theorem law_op3 {k : KT} {post : Option Value → va_W → Prop} {cs sl : Nat} (C : Ck k RL cL_law (some .boolean) 12 600000 7302250 post) (B : Cw k) (hcs : cs ≤ 600000) (hsl : sl ≤ 7302250) {b N0 : Nat} {xs : Nat → Int32} (hX : va_X b N0 xs (ks k) (ks k).heap) (hb : b < (ks k).heap.size) (hbA : ¬ kA k b) {i : Nat} (hi4 : 4 * i + 4 ≤ N0) (hi2 : N0 ≤ 2048) (hi5 : i < 512) {h hm : Nat} {ad adN adF adP adQ adE adO adm : Nat → Nat} (M : CS) (N : CS) (F : CS) (P : CS) (Q : HS) (E : CS) (O : CS) (S : CS) (hrel : REL M N F P Q E O S i) (next : ∀ (M : CS) (N : CS) (F : CS) (P : CS) (Q : HS) (E : CS) (O : CS) (S : CS), REL M N F P Q E O S (i + 1) → X k cs sl (cat [wMa h ad M, wSt (kg k) (ad 0) adN N, wSt (kg k) (ad 1) adF F, wSt (kg k) (ad 2) adP P, wHi (kg k) (ad 4) adQ Q, wRe (kg k) (ad 5) adE E, wOr (kg k) (ad 6) adO O, wMo (kg k) hm adm S]) 748 [some (.ref b), some (.ref h), some (.ref hm), some (.int (nI (4 * i)))] []) : X k cs sl (cat [wMa h ad M, wSt (kg k) (ad 0) adN N, wSt (kg k) (ad 1) adF F, wSt (kg k) (ad 2) adP P, wHi (kg k) (ad 4) adQ Q, wRe (kg k) (ad 5) adE E, wOr (kg k) (ad 6) adO O, wMo (kg k) hm adm S]) 253 [some (.ref b), some (.ref h), some (.ref hm), some (.int (nI (4 * i)))] [] := by
  refine x_aload_n (pc' := 254) C dL_law_253 rfl rfl rfl ?_
  refine x_aload_n (pc' := 255) C dL_law_254 rfl rfl rfl ?_
  refine x_iload_n (pc' := 256) C dL_law_255 rfl rfl rfl ?_
  refine x_iconst (v := 1) (pc' := 257) C dL_law_256 rfl (by decide) ?_
  refine x_iadd (v := nI (4 * i + 1)) (pc' := 258) C dL_law_257 rfl (nI_add (4 * i) 1) ?_
  refine x_sld (j := 4 * i + 1) (pc' := 259) C hX hb hbA (by omega) (by omega) dL_law_258 rfl ?_
  obtain ⟨hox, hor, heq, hrel2⟩ := sim_ask M N F P Q E O S i (xs (4 * i + 1)) hrel hi5
  obtain ⟨zx, ezx⟩ : ∃ z, z = (f_X6_ask M N F Q E (xs (4 * i + 1))) := ⟨_, rfl⟩
  obtain ⟨zr, ezr⟩ : ∃ z, z = (f_X7_ask S (xs (4 * i + 1))) := ⟨_, rfl⟩
  rw [← ezx, ← ezr] at heq hrel2
  have hcx := c_X6_ask (kl k) (kg k) h ad M adN N adF F adQ Q adE E (xs (4 * i + 1)) hox
  rw [← ezx] at hcx
  refine x_catWV (st := []) (st2 := [.int zx.1]) (pc' := 262) (wcs := [wMa h ad M, wSt (kg k) (ad 0) adN N, wSt (kg k) (ad 1) adF F, wHi (kg k) (ad 4) adQ Q, wRe (kg k) (ad 5) adE E]) (wrs := [wSt (kg k) (ad 2) adP P, wOr (kg k) (ad 6) adO O, wMo (kg k) hm adm S]) (wcs' := [wMa h ad M, wSt (kg k) (ad 0) adN zx.2.1, wSt (kg k) (ad 1) adF zx.2.2.1, wHi (kg k) (ad 4) adQ zx.2.2.2.1, wRe (kg k) (ad 5) adE zx.2.2.2.2]) C B [wMa h ad M, wSt (kg k) (ad 0) adN zx.2.1, wSt (kg k) (ad 1) adF zx.2.2.1, wSt (kg k) (ad 2) adP P, wHi (kg k) (ad 4) adQ zx.2.2.2.1, wRe (kg k) (ad 5) adE zx.2.2.2.2, wOr (kg k) (ad 6) adO O, wMo (kg k) hm adm S] hcx rfl rfl cw_L_27 ok_X6_ask rfl (by decide) rfl rfl [3, 6, 7, 0, 1, 2, 4, 5] [3, 4, 5, 0, 6, 7, 1, 2] rfl rfl rfl rfl rfl (Nat.le_of_ble_eq_true rfl) hcs hsl rfl dL_law_259 rfl rfl ?_
  refine x_aload_n (pc' := 263) C dL_law_262 rfl rfl rfl ?_
  refine x_aload_n (pc' := 264) C dL_law_263 rfl rfl rfl ?_
  refine x_iload_n (pc' := 265) C dL_law_264 rfl rfl rfl ?_
  refine x_iconst (v := 1) (pc' := 266) C dL_law_265 rfl (by decide) ?_
  refine x_iadd (v := nI (4 * i + 1)) (pc' := 267) C dL_law_266 rfl (nI_add (4 * i) 1) ?_
  refine x_sld (j := 4 * i + 1) (pc' := 268) C hX hb hbA (by omega) (by omega) dL_law_267 rfl ?_
  have hcr := c_X7_ask (kl k) (kg k) hm adm S (xs (4 * i + 1)) hor
  rw [← ezr] at hcr
  refine x_catWV (st := [.int zx.1]) (st2 := [.int zr.1, .int zx.1]) (pc' := 271) (wcs := [wMo (kg k) hm adm S]) (wrs := [wMa h ad M, wSt (kg k) (ad 0) adN zx.2.1, wSt (kg k) (ad 1) adF zx.2.2.1, wSt (kg k) (ad 2) adP P, wHi (kg k) (ad 4) adQ zx.2.2.2.1, wRe (kg k) (ad 5) adE zx.2.2.2.2, wOr (kg k) (ad 6) adO O]) (wcs' := [wMo (kg k) hm adm zr.2]) C B [wMa h ad M, wSt (kg k) (ad 0) adN zx.2.1, wSt (kg k) (ad 1) adF zx.2.2.1, wSt (kg k) (ad 2) adP P, wHi (kg k) (ad 4) adQ zx.2.2.2.1, wRe (kg k) (ad 5) adE zx.2.2.2.2, wOr (kg k) (ad 6) adO O, wMo (kg k) hm adm zr.2] hcr (by simp only [cat, List.append_nil]) (by simp only [cat, List.append_nil]) cw_L_30 ok_X7_ask rfl (by decide) rfl rfl [0, 1, 2, 3, 4, 5, 6, 7] [0, 1, 2, 3, 4, 5, 6, 7] rfl rfl rfl rfl rfl (Nat.le_of_ble_eq_true rfl) hcs hsl rfl dL_law_268 rfl rfl ?_
  refine x_icmp_eq (tgt := 748) (pc' := 274) C dL_law_271 (by decide) rfl (fun _ => ?_) (fun c => absurd heq c)
  exact next M zx.2.1 zx.2.2.1 P zx.2.2.2.1 zx.2.2.2.2 O zr.2 hrel2

set_option maxRecDepth 100000 in
set_option maxHeartbeats 8000000 in
theorem law_op4 {k : KT} {post : Option Value → va_W → Prop} {cs sl : Nat} (C : Ck k RL cL_law (some .boolean) 12 600000 7302250 post) (B : Cw k) (hcs : cs ≤ 600000) (hsl : sl ≤ 7302250) {b N0 : Nat} {xs : Nat → Int32} (hX : va_X b N0 xs (ks k) (ks k).heap) (hb : b < (ks k).heap.size) (hbA : ¬ kA k b) {i : Nat} (hi4 : 4 * i + 4 ≤ N0) (hi2 : N0 ≤ 2048) (hi5 : i < 512) {h hm : Nat} {ad adN adF adP adQ adE adO adm : Nat → Nat} (M : CS) (N : CS) (F : CS) (P : CS) (Q : HS) (E : CS) (O : CS) (S : CS) (hrel : REL M N F P Q E O S i) (next : ∀ (M : CS) (N : CS) (F : CS) (P : CS) (Q : HS) (E : CS) (O : CS) (S : CS), REL M N F P Q E O S (i + 1) → X k cs sl (cat [wMa h ad M, wSt (kg k) (ad 0) adN N, wSt (kg k) (ad 1) adF F, wSt (kg k) (ad 2) adP P, wHi (kg k) (ad 4) adQ Q, wRe (kg k) (ad 5) adE E, wOr (kg k) (ad 6) adO O, wMo (kg k) hm adm S]) 748 [some (.ref b), some (.ref h), some (.ref hm), some (.int (nI (4 * i)))] []) : X k cs sl (cat [wMa h ad M, wSt (kg k) (ad 0) adN N, wSt (kg k) (ad 1) adF F, wSt (kg k) (ad 2) adP P, wHi (kg k) (ad 4) adQ Q, wRe (kg k) (ad 5) adE E, wOr (kg k) (ad 6) adO O, wMo (kg k) hm adm S]) 276 [some (.ref b), some (.ref h), some (.ref hm), some (.int (nI (4 * i)))] [] := by
  refine x_aload_n (pc' := 277) C dL_law_276 rfl rfl rfl ?_
  refine x_aload_n (pc' := 278) C dL_law_277 rfl rfl rfl ?_
  refine x_iload_n (pc' := 279) C dL_law_278 rfl rfl rfl ?_
  refine x_iconst (v := 1) (pc' := 280) C dL_law_279 rfl (by decide) ?_
  refine x_iadd (v := nI (4 * i + 1)) (pc' := 281) C dL_law_280 rfl (nI_add (4 * i) 1) ?_
  refine x_sld (j := 4 * i + 1) (pc' := 282) C hX hb hbA (by omega) (by omega) dL_law_281 rfl ?_
  obtain ⟨hox, hor, heq, hrel2⟩ := sim_root M N F P Q E O S i (xs (4 * i + 1)) hrel hi5
  obtain ⟨zx, ezx⟩ : ∃ z, z = (f_X6_root M N F Q E (xs (4 * i + 1))) := ⟨_, rfl⟩
  obtain ⟨zr, ezr⟩ : ∃ z, z = (f_X7_root S (xs (4 * i + 1))) := ⟨_, rfl⟩
  rw [← ezx, ← ezr] at heq hrel2
  have hcx := c_X6_root (kl k) (kg k) h ad M adN N adF F adQ Q adE E (xs (4 * i + 1)) hox
  rw [← ezx] at hcx
  refine x_catWV (st := []) (st2 := [.int zx.1]) (pc' := 285) (wcs := [wMa h ad M, wSt (kg k) (ad 0) adN N, wSt (kg k) (ad 1) adF F, wHi (kg k) (ad 4) adQ Q, wRe (kg k) (ad 5) adE E]) (wrs := [wSt (kg k) (ad 2) adP P, wOr (kg k) (ad 6) adO O, wMo (kg k) hm adm S]) (wcs' := [wMa h ad M, wSt (kg k) (ad 0) adN zx.2.1, wSt (kg k) (ad 1) adF zx.2.2.1, wHi (kg k) (ad 4) adQ zx.2.2.2.1, wRe (kg k) (ad 5) adE zx.2.2.2.2]) C B [wMa h ad M, wSt (kg k) (ad 0) adN zx.2.1, wSt (kg k) (ad 1) adF zx.2.2.1, wSt (kg k) (ad 2) adP P, wHi (kg k) (ad 4) adQ zx.2.2.2.1, wRe (kg k) (ad 5) adE zx.2.2.2.2, wOr (kg k) (ad 6) adO O, wMo (kg k) hm adm S] hcx rfl rfl cw_L_31 ok_X6_root rfl (by decide) rfl rfl [3, 6, 7, 0, 1, 2, 4, 5] [3, 4, 5, 0, 6, 7, 1, 2] rfl rfl rfl rfl rfl (Nat.le_of_ble_eq_true rfl) hcs hsl rfl dL_law_282 rfl rfl ?_
  refine x_aload_n (pc' := 286) C dL_law_285 rfl rfl rfl ?_
  refine x_aload_n (pc' := 287) C dL_law_286 rfl rfl rfl ?_
  refine x_iload_n (pc' := 288) C dL_law_287 rfl rfl rfl ?_
  refine x_iconst (v := 1) (pc' := 289) C dL_law_288 rfl (by decide) ?_
  refine x_iadd (v := nI (4 * i + 1)) (pc' := 290) C dL_law_289 rfl (nI_add (4 * i) 1) ?_
  refine x_sld (j := 4 * i + 1) (pc' := 291) C hX hb hbA (by omega) (by omega) dL_law_290 rfl ?_
  have hcr := c_X7_root (kl k) (kg k) hm adm S (xs (4 * i + 1)) hor
  rw [← ezr] at hcr
  refine x_catWV (st := [.int zx.1]) (st2 := [.int zr.1, .int zx.1]) (pc' := 294) (wcs := [wMo (kg k) hm adm S]) (wrs := [wMa h ad M, wSt (kg k) (ad 0) adN zx.2.1, wSt (kg k) (ad 1) adF zx.2.2.1, wSt (kg k) (ad 2) adP P, wHi (kg k) (ad 4) adQ zx.2.2.2.1, wRe (kg k) (ad 5) adE zx.2.2.2.2, wOr (kg k) (ad 6) adO O]) (wcs' := [wMo (kg k) hm adm zr.2]) C B [wMa h ad M, wSt (kg k) (ad 0) adN zx.2.1, wSt (kg k) (ad 1) adF zx.2.2.1, wSt (kg k) (ad 2) adP P, wHi (kg k) (ad 4) adQ zx.2.2.2.1, wRe (kg k) (ad 5) adE zx.2.2.2.2, wOr (kg k) (ad 6) adO O, wMo (kg k) hm adm zr.2] hcr (by simp only [cat, List.append_nil]) (by simp only [cat, List.append_nil]) cw_L_34 ok_X7_root rfl (by decide) rfl rfl [0, 1, 2, 3, 4, 5, 6, 7] [0, 1, 2, 3, 4, 5, 6, 7] rfl rfl rfl rfl rfl (Nat.le_of_ble_eq_true rfl) hcs hsl rfl dL_law_291 rfl rfl ?_
  refine x_icmp_eq (tgt := 748) (pc' := 297) C dL_law_294 (by decide) rfl (fun _ => ?_) (fun c => absurd heq c)
  exact next M zx.2.1 zx.2.2.1 P zx.2.2.2.1 zx.2.2.2.2 O zr.2 hrel2

set_option maxRecDepth 100000 in
set_option maxHeartbeats 8000000 in
theorem law_op5 {k : KT} {post : Option Value → va_W → Prop} {cs sl : Nat} (C : Ck k RL cL_law (some .boolean) 12 600000 7302250 post) (B : Cw k) (hcs : cs ≤ 600000) (hsl : sl ≤ 7302250) {b N0 : Nat} {xs : Nat → Int32} (hX : va_X b N0 xs (ks k) (ks k).heap) (hb : b < (ks k).heap.size) (hbA : ¬ kA k b) {i : Nat} (hi4 : 4 * i + 4 ≤ N0) (hi2 : N0 ≤ 2048) (hi5 : i < 512) {h hm : Nat} {ad adN adF adP adQ adE adO adm : Nat → Nat} (M : CS) (N : CS) (F : CS) (P : CS) (Q : HS) (E : CS) (O : CS) (S : CS) (hrel : REL M N F P Q E O S i) (next : ∀ (M : CS) (N : CS) (F : CS) (P : CS) (Q : HS) (E : CS) (O : CS) (S : CS), REL M N F P Q E O S (i + 1) → X k cs sl (cat [wMa h ad M, wSt (kg k) (ad 0) adN N, wSt (kg k) (ad 1) adF F, wSt (kg k) (ad 2) adP P, wHi (kg k) (ad 4) adQ Q, wRe (kg k) (ad 5) adE E, wOr (kg k) (ad 6) adO O, wMo (kg k) hm adm S]) 748 [some (.ref b), some (.ref h), some (.ref hm), some (.int (nI (4 * i)))] []) : X k cs sl (cat [wMa h ad M, wSt (kg k) (ad 0) adN N, wSt (kg k) (ad 1) adF F, wSt (kg k) (ad 2) adP P, wHi (kg k) (ad 4) adQ Q, wRe (kg k) (ad 5) adE E, wOr (kg k) (ad 6) adO O, wMo (kg k) hm adm S]) 299 [some (.ref b), some (.ref h), some (.ref hm), some (.int (nI (4 * i)))] [] := by
  refine x_aload_n (pc' := 300) C dL_law_299 rfl rfl rfl ?_
  refine x_aload_n (pc' := 301) C dL_law_300 rfl rfl rfl ?_
  refine x_iload_n (pc' := 302) C dL_law_301 rfl rfl rfl ?_
  refine x_iconst (v := 1) (pc' := 303) C dL_law_302 rfl (by decide) ?_
  refine x_iadd (v := nI (4 * i + 1)) (pc' := 304) C dL_law_303 rfl (nI_add (4 * i) 1) ?_
  refine x_sld (j := 4 * i + 1) (pc' := 305) C hX hb hbA (by omega) (by omega) dL_law_304 rfl ?_
  obtain ⟨hox, hor, heq, hrel2⟩ := sim_cut M N F P Q E O S i (xs (4 * i + 1)) hrel hi5
  obtain ⟨zx, ezx⟩ : ∃ z, z = (f_X6_cut M N F Q E (xs (4 * i + 1))) := ⟨_, rfl⟩
  obtain ⟨zr, ezr⟩ : ∃ z, z = (f_X7_cut S (xs (4 * i + 1))) := ⟨_, rfl⟩
  rw [← ezx, ← ezr] at heq hrel2
  have hcx := c_X6_cut (kl k) (kg k) h ad M adN N adF F adQ Q adE E (xs (4 * i + 1)) hox
  rw [← ezx] at hcx
  refine x_catWV (st := []) (st2 := [.int zx.1]) (pc' := 308) (wcs := [wMa h ad M, wSt (kg k) (ad 0) adN N, wSt (kg k) (ad 1) adF F, wHi (kg k) (ad 4) adQ Q, wRe (kg k) (ad 5) adE E]) (wrs := [wSt (kg k) (ad 2) adP P, wOr (kg k) (ad 6) adO O, wMo (kg k) hm adm S]) (wcs' := [wMa h ad M, wSt (kg k) (ad 0) adN zx.2.1, wSt (kg k) (ad 1) adF zx.2.2.1, wHi (kg k) (ad 4) adQ zx.2.2.2.1, wRe (kg k) (ad 5) adE zx.2.2.2.2]) C B [wMa h ad M, wSt (kg k) (ad 0) adN zx.2.1, wSt (kg k) (ad 1) adF zx.2.2.1, wSt (kg k) (ad 2) adP P, wHi (kg k) (ad 4) adQ zx.2.2.2.1, wRe (kg k) (ad 5) adE zx.2.2.2.2, wOr (kg k) (ad 6) adO O, wMo (kg k) hm adm S] hcx rfl rfl cw_L_35 ok_X6_cut rfl (by decide) rfl rfl [3, 6, 7, 0, 1, 2, 4, 5] [3, 4, 5, 0, 6, 7, 1, 2] rfl rfl rfl rfl rfl (Nat.le_of_ble_eq_true rfl) hcs hsl rfl dL_law_305 rfl rfl ?_
  refine x_aload_n (pc' := 309) C dL_law_308 rfl rfl rfl ?_
  refine x_aload_n (pc' := 310) C dL_law_309 rfl rfl rfl ?_
  refine x_iload_n (pc' := 311) C dL_law_310 rfl rfl rfl ?_
  refine x_iconst (v := 1) (pc' := 312) C dL_law_311 rfl (by decide) ?_
  refine x_iadd (v := nI (4 * i + 1)) (pc' := 313) C dL_law_312 rfl (nI_add (4 * i) 1) ?_
  refine x_sld (j := 4 * i + 1) (pc' := 314) C hX hb hbA (by omega) (by omega) dL_law_313 rfl ?_
  have hcr := c_X7_cut (kl k) (kg k) hm adm S (xs (4 * i + 1)) hor
  rw [← ezr] at hcr
  refine x_catWV (st := [.int zx.1]) (st2 := [.int zr.1, .int zx.1]) (pc' := 317) (wcs := [wMo (kg k) hm adm S]) (wrs := [wMa h ad M, wSt (kg k) (ad 0) adN zx.2.1, wSt (kg k) (ad 1) adF zx.2.2.1, wSt (kg k) (ad 2) adP P, wHi (kg k) (ad 4) adQ zx.2.2.2.1, wRe (kg k) (ad 5) adE zx.2.2.2.2, wOr (kg k) (ad 6) adO O]) (wcs' := [wMo (kg k) hm adm zr.2]) C B [wMa h ad M, wSt (kg k) (ad 0) adN zx.2.1, wSt (kg k) (ad 1) adF zx.2.2.1, wSt (kg k) (ad 2) adP P, wHi (kg k) (ad 4) adQ zx.2.2.2.1, wRe (kg k) (ad 5) adE zx.2.2.2.2, wOr (kg k) (ad 6) adO O, wMo (kg k) hm adm zr.2] hcr (by simp only [cat, List.append_nil]) (by simp only [cat, List.append_nil]) cw_L_38 ok_X7_cut rfl (by decide) rfl rfl [0, 1, 2, 3, 4, 5, 6, 7] [0, 1, 2, 3, 4, 5, 6, 7] rfl rfl rfl rfl rfl (Nat.le_of_ble_eq_true rfl) hcs hsl rfl dL_law_314 rfl rfl ?_
  refine x_icmp_eq (tgt := 748) (pc' := 320) C dL_law_317 (by decide) rfl (fun _ => ?_) (fun c => absurd heq c)
  exact next M zx.2.1 zx.2.2.1 P zx.2.2.2.1 zx.2.2.2.2 O zr.2 hrel2

set_option maxRecDepth 100000 in
set_option maxHeartbeats 8000000 in
theorem law_op6 {k : KT} {post : Option Value → va_W → Prop} {cs sl : Nat} (C : Ck k RL cL_law (some .boolean) 12 600000 7302250 post) (B : Cw k) (hcs : cs ≤ 600000) (hsl : sl ≤ 7302250) {b N0 : Nat} {xs : Nat → Int32} (hX : va_X b N0 xs (ks k) (ks k).heap) (hb : b < (ks k).heap.size) (hbA : ¬ kA k b) {i : Nat} (hi4 : 4 * i + 4 ≤ N0) (hi2 : N0 ≤ 2048) (hi5 : i < 512) {h hm : Nat} {ad adN adF adP adQ adE adO adm : Nat → Nat} (M : CS) (N : CS) (F : CS) (P : CS) (Q : HS) (E : CS) (O : CS) (S : CS) (hrel : REL M N F P Q E O S i) (next : ∀ (M : CS) (N : CS) (F : CS) (P : CS) (Q : HS) (E : CS) (O : CS) (S : CS), REL M N F P Q E O S (i + 1) → X k cs sl (cat [wMa h ad M, wSt (kg k) (ad 0) adN N, wSt (kg k) (ad 1) adF F, wSt (kg k) (ad 2) adP P, wHi (kg k) (ad 4) adQ Q, wRe (kg k) (ad 5) adE E, wOr (kg k) (ad 6) adO O, wMo (kg k) hm adm S]) 748 [some (.ref b), some (.ref h), some (.ref hm), some (.int (nI (4 * i)))] []) : X k cs sl (cat [wMa h ad M, wSt (kg k) (ad 0) adN N, wSt (kg k) (ad 1) adF F, wSt (kg k) (ad 2) adP P, wHi (kg k) (ad 4) adQ Q, wRe (kg k) (ad 5) adE E, wOr (kg k) (ad 6) adO O, wMo (kg k) hm adm S]) 322 [some (.ref b), some (.ref h), some (.ref hm), some (.int (nI (4 * i)))] [] := by
  refine x_aload_n (pc' := 323) C dL_law_322 rfl rfl rfl ?_
  refine x_aload_n (pc' := 324) C dL_law_323 rfl rfl rfl ?_
  refine x_iload_n (pc' := 325) C dL_law_324 rfl rfl rfl ?_
  refine x_iconst (v := 1) (pc' := 326) C dL_law_325 rfl (by decide) ?_
  refine x_iadd (v := nI (4 * i + 1)) (pc' := 327) C dL_law_326 rfl (nI_add (4 * i) 1) ?_
  refine x_sld (j := 4 * i + 1) (pc' := 328) C hX hb hbA (by omega) (by omega) dL_law_327 rfl ?_
  obtain ⟨hox, hor, heq, hrel2⟩ := sim_join M N F P Q E O S i (xs (4 * i + 1)) hrel hi5
  obtain ⟨zx, ezx⟩ : ∃ z, z = (f_X6_join M N F Q E (xs (4 * i + 1))) := ⟨_, rfl⟩
  obtain ⟨zr, ezr⟩ : ∃ z, z = (f_X7_join S (xs (4 * i + 1))) := ⟨_, rfl⟩
  rw [← ezx, ← ezr] at heq hrel2
  have hcx := c_X6_join (kl k) (kg k) h ad M adN N adF F adQ Q adE E (xs (4 * i + 1)) hox
  rw [← ezx] at hcx
  refine x_catWV (st := []) (st2 := [.int zx.1]) (pc' := 331) (wcs := [wMa h ad M, wSt (kg k) (ad 0) adN N, wSt (kg k) (ad 1) adF F, wHi (kg k) (ad 4) adQ Q, wRe (kg k) (ad 5) adE E]) (wrs := [wSt (kg k) (ad 2) adP P, wOr (kg k) (ad 6) adO O, wMo (kg k) hm adm S]) (wcs' := [wMa h ad M, wSt (kg k) (ad 0) adN zx.2.1, wSt (kg k) (ad 1) adF zx.2.2.1, wHi (kg k) (ad 4) adQ zx.2.2.2.1, wRe (kg k) (ad 5) adE zx.2.2.2.2]) C B [wMa h ad M, wSt (kg k) (ad 0) adN zx.2.1, wSt (kg k) (ad 1) adF zx.2.2.1, wSt (kg k) (ad 2) adP P, wHi (kg k) (ad 4) adQ zx.2.2.2.1, wRe (kg k) (ad 5) adE zx.2.2.2.2, wOr (kg k) (ad 6) adO O, wMo (kg k) hm adm S] hcx rfl rfl cw_L_39 ok_X6_join rfl (by decide) rfl rfl [3, 6, 7, 0, 1, 2, 4, 5] [3, 4, 5, 0, 6, 7, 1, 2] rfl rfl rfl rfl rfl (Nat.le_of_ble_eq_true rfl) hcs hsl rfl dL_law_328 rfl rfl ?_
  refine x_aload_n (pc' := 332) C dL_law_331 rfl rfl rfl ?_
  refine x_aload_n (pc' := 333) C dL_law_332 rfl rfl rfl ?_
  refine x_iload_n (pc' := 334) C dL_law_333 rfl rfl rfl ?_
  refine x_iconst (v := 1) (pc' := 335) C dL_law_334 rfl (by decide) ?_
  refine x_iadd (v := nI (4 * i + 1)) (pc' := 336) C dL_law_335 rfl (nI_add (4 * i) 1) ?_
  refine x_sld (j := 4 * i + 1) (pc' := 337) C hX hb hbA (by omega) (by omega) dL_law_336 rfl ?_
  have hcr := c_X7_join (kl k) (kg k) hm adm S (xs (4 * i + 1)) hor
  rw [← ezr] at hcr
  refine x_catWV (st := [.int zx.1]) (st2 := [.int zr.1, .int zx.1]) (pc' := 340) (wcs := [wMo (kg k) hm adm S]) (wrs := [wMa h ad M, wSt (kg k) (ad 0) adN zx.2.1, wSt (kg k) (ad 1) adF zx.2.2.1, wSt (kg k) (ad 2) adP P, wHi (kg k) (ad 4) adQ zx.2.2.2.1, wRe (kg k) (ad 5) adE zx.2.2.2.2, wOr (kg k) (ad 6) adO O]) (wcs' := [wMo (kg k) hm adm zr.2]) C B [wMa h ad M, wSt (kg k) (ad 0) adN zx.2.1, wSt (kg k) (ad 1) adF zx.2.2.1, wSt (kg k) (ad 2) adP P, wHi (kg k) (ad 4) adQ zx.2.2.2.1, wRe (kg k) (ad 5) adE zx.2.2.2.2, wOr (kg k) (ad 6) adO O, wMo (kg k) hm adm zr.2] hcr (by simp only [cat, List.append_nil]) (by simp only [cat, List.append_nil]) cw_L_42 ok_X7_join rfl (by decide) rfl rfl [0, 1, 2, 3, 4, 5, 6, 7] [0, 1, 2, 3, 4, 5, 6, 7] rfl rfl rfl rfl rfl (Nat.le_of_ble_eq_true rfl) hcs hsl rfl dL_law_337 rfl rfl ?_
  refine x_icmp_eq (tgt := 748) (pc' := 343) C dL_law_340 (by decide) rfl (fun _ => ?_) (fun c => absurd heq c)
  exact next M zx.2.1 zx.2.2.1 P zx.2.2.2.1 zx.2.2.2.2 O zr.2 hrel2

set_option maxRecDepth 100000 in
set_option maxHeartbeats 8000000 in
theorem law_op7 {k : KT} {post : Option Value → va_W → Prop} {cs sl : Nat} (C : Ck k RL cL_law (some .boolean) 12 600000 7302250 post) (B : Cw k) (hcs : cs ≤ 600000) (hsl : sl ≤ 7302250) {b N0 : Nat} {xs : Nat → Int32} (hX : va_X b N0 xs (ks k) (ks k).heap) (hb : b < (ks k).heap.size) (hbA : ¬ kA k b) {i : Nat} (hi4 : 4 * i + 4 ≤ N0) (hi2 : N0 ≤ 2048) (hi5 : i < 512) {h hm : Nat} {ad adN adF adP adQ adE adO adm : Nat → Nat} (M : CS) (N : CS) (F : CS) (P : CS) (Q : HS) (E : CS) (O : CS) (S : CS) (hrel : REL M N F P Q E O S i) (next : ∀ (M : CS) (N : CS) (F : CS) (P : CS) (Q : HS) (E : CS) (O : CS) (S : CS), REL M N F P Q E O S (i + 1) → X k cs sl (cat [wMa h ad M, wSt (kg k) (ad 0) adN N, wSt (kg k) (ad 1) adF F, wSt (kg k) (ad 2) adP P, wHi (kg k) (ad 4) adQ Q, wRe (kg k) (ad 5) adE E, wOr (kg k) (ad 6) adO O, wMo (kg k) hm adm S]) 748 [some (.ref b), some (.ref h), some (.ref hm), some (.int (nI (4 * i)))] []) : X k cs sl (cat [wMa h ad M, wSt (kg k) (ad 0) adN N, wSt (kg k) (ad 1) adF F, wSt (kg k) (ad 2) adP P, wHi (kg k) (ad 4) adQ Q, wRe (kg k) (ad 5) adE E, wOr (kg k) (ad 6) adO O, wMo (kg k) hm adm S]) 345 [some (.ref b), some (.ref h), some (.ref hm), some (.int (nI (4 * i)))] [] := by
  refine x_aload_n (pc' := 346) C dL_law_345 rfl rfl rfl ?_
  refine x_aload_n (pc' := 347) C dL_law_346 rfl rfl rfl ?_
  refine x_iload_n (pc' := 348) C dL_law_347 rfl rfl rfl ?_
  refine x_iconst (v := 1) (pc' := 349) C dL_law_348 rfl (by decide) ?_
  refine x_iadd (v := nI (4 * i + 1)) (pc' := 350) C dL_law_349 rfl (nI_add (4 * i) 1) ?_
  refine x_sld (j := 4 * i + 1) (pc' := 351) C hX hb hbA (by omega) (by omega) dL_law_350 rfl ?_
  refine x_aload_n (pc' := 352) C dL_law_351 rfl rfl rfl ?_
  refine x_iload_n (pc' := 353) C dL_law_352 rfl rfl rfl ?_
  refine x_iconst (v := 2) (pc' := 354) C dL_law_353 rfl (by decide) ?_
  refine x_iadd (v := nI (4 * i + 2)) (pc' := 355) C dL_law_354 rfl (nI_add (4 * i) 2) ?_
  refine x_sld (j := 4 * i + 2) (pc' := 356) C hX hb hbA (by omega) (by omega) dL_law_355 rfl ?_
  obtain ⟨hox, hor, heq, hrel2⟩ := sim_set M N F P Q E O S i (xs (4 * i + 1)) (xs (4 * i + 2)) hrel hi5
  obtain ⟨zx, ezx⟩ : ∃ z, z = (f_X6_set M N F Q (xs (4 * i + 1)) (xs (4 * i + 2))) := ⟨_, rfl⟩
  obtain ⟨zr, ezr⟩ : ∃ z, z = (f_X7_set S (xs (4 * i + 1)) (xs (4 * i + 2))) := ⟨_, rfl⟩
  rw [← ezx, ← ezr] at heq hrel2
  have hcx := c_X6_set (kl k) (kg k) h ad M adN N adF F adQ Q (xs (4 * i + 1)) (xs (4 * i + 2)) hox
  rw [← ezx] at hcx
  refine x_catWV (st := []) (st2 := [.int zx.1]) (pc' := 359) (wcs := [wMa h ad M, wSt (kg k) (ad 0) adN N, wSt (kg k) (ad 1) adF F, wHi (kg k) (ad 4) adQ Q]) (wrs := [wSt (kg k) (ad 2) adP P, wRe (kg k) (ad 5) adE E, wOr (kg k) (ad 6) adO O, wMo (kg k) hm adm S]) (wcs' := [wMa h ad M, wSt (kg k) (ad 0) adN zx.2.1, wSt (kg k) (ad 1) adF zx.2.2.1, wHi (kg k) (ad 4) adQ zx.2.2.2]) C B [wMa h ad M, wSt (kg k) (ad 0) adN zx.2.1, wSt (kg k) (ad 1) adF zx.2.2.1, wSt (kg k) (ad 2) adP P, wHi (kg k) (ad 4) adQ zx.2.2.2, wRe (kg k) (ad 5) adE E, wOr (kg k) (ad 6) adO O, wMo (kg k) hm adm S] hcx rfl rfl cw_L_43 ok_X6_set rfl (by decide) rfl rfl [3, 5, 6, 7, 0, 1, 2, 4] [4, 5, 6, 0, 7, 1, 2, 3] rfl rfl rfl rfl rfl (Nat.le_of_ble_eq_true rfl) hcs hsl rfl dL_law_356 rfl rfl ?_
  refine x_aload_n (pc' := 360) C dL_law_359 rfl rfl rfl ?_
  refine x_aload_n (pc' := 361) C dL_law_360 rfl rfl rfl ?_
  refine x_iload_n (pc' := 362) C dL_law_361 rfl rfl rfl ?_
  refine x_iconst (v := 1) (pc' := 363) C dL_law_362 rfl (by decide) ?_
  refine x_iadd (v := nI (4 * i + 1)) (pc' := 364) C dL_law_363 rfl (nI_add (4 * i) 1) ?_
  refine x_sld (j := 4 * i + 1) (pc' := 365) C hX hb hbA (by omega) (by omega) dL_law_364 rfl ?_
  refine x_aload_n (pc' := 366) C dL_law_365 rfl rfl rfl ?_
  refine x_iload_n (pc' := 367) C dL_law_366 rfl rfl rfl ?_
  refine x_iconst (v := 2) (pc' := 368) C dL_law_367 rfl (by decide) ?_
  refine x_iadd (v := nI (4 * i + 2)) (pc' := 369) C dL_law_368 rfl (nI_add (4 * i) 2) ?_
  refine x_sld (j := 4 * i + 2) (pc' := 370) C hX hb hbA (by omega) (by omega) dL_law_369 rfl ?_
  have hcr := c_X7_set (kl k) (kg k) hm adm S (xs (4 * i + 1)) (xs (4 * i + 2)) hor
  rw [← ezr] at hcr
  refine x_catWV (st := [.int zx.1]) (st2 := [.int zr.1, .int zx.1]) (pc' := 373) (wcs := [wMo (kg k) hm adm S]) (wrs := [wMa h ad M, wSt (kg k) (ad 0) adN zx.2.1, wSt (kg k) (ad 1) adF zx.2.2.1, wSt (kg k) (ad 2) adP P, wHi (kg k) (ad 4) adQ zx.2.2.2, wRe (kg k) (ad 5) adE E, wOr (kg k) (ad 6) adO O]) (wcs' := [wMo (kg k) hm adm zr.2]) C B [wMa h ad M, wSt (kg k) (ad 0) adN zx.2.1, wSt (kg k) (ad 1) adF zx.2.2.1, wSt (kg k) (ad 2) adP P, wHi (kg k) (ad 4) adQ zx.2.2.2, wRe (kg k) (ad 5) adE E, wOr (kg k) (ad 6) adO O, wMo (kg k) hm adm zr.2] hcr (by simp only [cat, List.append_nil]) (by simp only [cat, List.append_nil]) cw_L_47 ok_X7_set rfl (by decide) rfl rfl [0, 1, 2, 3, 4, 5, 6, 7] [0, 1, 2, 3, 4, 5, 6, 7] rfl rfl rfl rfl rfl (Nat.le_of_ble_eq_true rfl) hcs hsl rfl dL_law_370 rfl rfl ?_
  refine x_icmp_eq (tgt := 748) (pc' := 376) C dL_law_373 (by decide) rfl (fun _ => ?_) (fun c => absurd heq c)
  exact next M zx.2.1 zx.2.2.1 P zx.2.2.2 E O zr.2 hrel2

set_option maxRecDepth 100000 in
set_option maxHeartbeats 8000000 in
theorem law_op8 {k : KT} {post : Option Value → va_W → Prop} {cs sl : Nat} (C : Ck k RL cL_law (some .boolean) 12 600000 7302250 post) (B : Cw k) (hcs : cs ≤ 600000) (hsl : sl ≤ 7302250) {b N0 : Nat} {xs : Nat → Int32} (hX : va_X b N0 xs (ks k) (ks k).heap) (hb : b < (ks k).heap.size) (hbA : ¬ kA k b) {i : Nat} (hi4 : 4 * i + 4 ≤ N0) (hi2 : N0 ≤ 2048) (hi5 : i < 512) {h hm : Nat} {ad adN adF adP adQ adE adO adm : Nat → Nat} (M : CS) (N : CS) (F : CS) (P : CS) (Q : HS) (E : CS) (O : CS) (S : CS) (hrel : REL M N F P Q E O S i) (next : ∀ (M : CS) (N : CS) (F : CS) (P : CS) (Q : HS) (E : CS) (O : CS) (S : CS), REL M N F P Q E O S (i + 1) → X k cs sl (cat [wMa h ad M, wSt (kg k) (ad 0) adN N, wSt (kg k) (ad 1) adF F, wSt (kg k) (ad 2) adP P, wHi (kg k) (ad 4) adQ Q, wRe (kg k) (ad 5) adE E, wOr (kg k) (ad 6) adO O, wMo (kg k) hm adm S]) 748 [some (.ref b), some (.ref h), some (.ref hm), some (.int (nI (4 * i)))] []) : X k cs sl (cat [wMa h ad M, wSt (kg k) (ad 0) adN N, wSt (kg k) (ad 1) adF F, wSt (kg k) (ad 2) adP P, wHi (kg k) (ad 4) adQ Q, wRe (kg k) (ad 5) adE E, wOr (kg k) (ad 6) adO O, wMo (kg k) hm adm S]) 378 [some (.ref b), some (.ref h), some (.ref hm), some (.int (nI (4 * i)))] [] := by
  refine x_aload_n (pc' := 379) C dL_law_378 rfl rfl rfl ?_
  refine x_aload_n (pc' := 380) C dL_law_379 rfl rfl rfl ?_
  refine x_iload_n (pc' := 381) C dL_law_380 rfl rfl rfl ?_
  refine x_iconst (v := 1) (pc' := 382) C dL_law_381 rfl (by decide) ?_
  refine x_iadd (v := nI (4 * i + 1)) (pc' := 383) C dL_law_382 rfl (nI_add (4 * i) 1) ?_
  refine x_sld (j := 4 * i + 1) (pc' := 384) C hX hb hbA (by omega) (by omega) dL_law_383 rfl ?_
  refine x_i2c (pc' := 385) (v := i2c (xs (4 * i + 1))) C dL_law_384 rfl rfl ?_
  obtain ⟨hox, hor, heq, hrel2⟩ := sim_type M N F P Q E O S i (i2c (xs (4 * i + 1))) (pk_vc _) hrel hi5
  obtain ⟨zx, ezx⟩ : ∃ z, z = (f_X6_type M O (i2c (xs (4 * i + 1)))) := ⟨_, rfl⟩
  obtain ⟨zr, ezr⟩ : ∃ z, z = (f_X7_type S (i2c (xs (4 * i + 1)))) := ⟨_, rfl⟩
  rw [← ezx, ← ezr] at heq hrel2
  have hcx := c_X6_type (kl k) (kg k) h ad M adO O (i2c (xs (4 * i + 1))) (pk_vc _)
  rw [← ezx] at hcx
  refine x_catWV (st := []) (st2 := [.int zx.1]) (pc' := 388) (wcs := [wMa h ad M, wOr (kg k) (ad 6) adO O]) (wrs := [wSt (kg k) (ad 0) adN N, wSt (kg k) (ad 1) adF F, wSt (kg k) (ad 2) adP P, wHi (kg k) (ad 4) adQ Q, wRe (kg k) (ad 5) adE E, wMo (kg k) hm adm S]) (wcs' := [wMa h ad M, wOr (kg k) (ad 6) adO zx.2]) C B [wMa h ad M, wSt (kg k) (ad 0) adN N, wSt (kg k) (ad 1) adF F, wSt (kg k) (ad 2) adP P, wHi (kg k) (ad 4) adQ Q, wRe (kg k) (ad 5) adE E, wOr (kg k) (ad 6) adO zx.2, wMo (kg k) hm adm S] hcx rfl rfl cw_L_48 ok_X6_type rfl (by decide) rfl rfl [1, 2, 3, 4, 5, 7, 0, 6] [6, 0, 1, 2, 3, 4, 7, 5] rfl rfl rfl rfl rfl (Nat.le_of_ble_eq_true rfl) hcs hsl rfl dL_law_385 rfl rfl ?_
  refine x_aload_n (pc' := 389) C dL_law_388 rfl rfl rfl ?_
  refine x_aload_n (pc' := 390) C dL_law_389 rfl rfl rfl ?_
  refine x_iload_n (pc' := 391) C dL_law_390 rfl rfl rfl ?_
  refine x_iconst (v := 1) (pc' := 392) C dL_law_391 rfl (by decide) ?_
  refine x_iadd (v := nI (4 * i + 1)) (pc' := 393) C dL_law_392 rfl (nI_add (4 * i) 1) ?_
  refine x_sld (j := 4 * i + 1) (pc' := 394) C hX hb hbA (by omega) (by omega) dL_law_393 rfl ?_
  refine x_i2c (pc' := 395) (v := i2c (xs (4 * i + 1))) C dL_law_394 rfl rfl ?_
  have hcr := c_X7_type (kl k) (kg k) hm adm S (i2c (xs (4 * i + 1))) hor
  rw [← ezr] at hcr
  refine x_catWV (st := [.int zx.1]) (st2 := [.int zr.1, .int zx.1]) (pc' := 398) (wcs := [wMo (kg k) hm adm S]) (wrs := [wMa h ad M, wSt (kg k) (ad 0) adN N, wSt (kg k) (ad 1) adF F, wSt (kg k) (ad 2) adP P, wHi (kg k) (ad 4) adQ Q, wRe (kg k) (ad 5) adE E, wOr (kg k) (ad 6) adO zx.2]) (wcs' := [wMo (kg k) hm adm zr.2]) C B [wMa h ad M, wSt (kg k) (ad 0) adN N, wSt (kg k) (ad 1) adF F, wSt (kg k) (ad 2) adP P, wHi (kg k) (ad 4) adQ Q, wRe (kg k) (ad 5) adE E, wOr (kg k) (ad 6) adO zx.2, wMo (kg k) hm adm zr.2] hcr (by simp only [cat, List.append_nil]) (by simp only [cat, List.append_nil]) cw_L_52 ok_X7_type rfl (by decide) rfl rfl [0, 1, 2, 3, 4, 5, 6, 7] [0, 1, 2, 3, 4, 5, 6, 7] rfl rfl rfl rfl rfl (Nat.le_of_ble_eq_true rfl) hcs hsl rfl dL_law_395 rfl rfl ?_
  refine x_icmp_eq (tgt := 748) (pc' := 401) C dL_law_398 (by decide) rfl (fun _ => ?_) (fun c => absurd heq c)
  exact next M N F P Q E zx.2 zr.2 hrel2

set_option maxRecDepth 100000 in
set_option maxHeartbeats 8000000 in
theorem law_op9 {k : KT} {post : Option Value → va_W → Prop} {cs sl : Nat} (C : Ck k RL cL_law (some .boolean) 12 600000 7302250 post) (B : Cw k) (hcs : cs ≤ 600000) (hsl : sl ≤ 7302250) {b N0 : Nat} {xs : Nat → Int32} (hX : va_X b N0 xs (ks k) (ks k).heap) (hb : b < (ks k).heap.size) (hbA : ¬ kA k b) {i : Nat} (hi4 : 4 * i + 4 ≤ N0) (hi2 : N0 ≤ 2048) (hi5 : i < 512) {h hm : Nat} {ad adN adF adP adQ adE adO adm : Nat → Nat} (M : CS) (N : CS) (F : CS) (P : CS) (Q : HS) (E : CS) (O : CS) (S : CS) (hrel : REL M N F P Q E O S i) (next : ∀ (M : CS) (N : CS) (F : CS) (P : CS) (Q : HS) (E : CS) (O : CS) (S : CS), REL M N F P Q E O S (i + 1) → X k cs sl (cat [wMa h ad M, wSt (kg k) (ad 0) adN N, wSt (kg k) (ad 1) adF F, wSt (kg k) (ad 2) adP P, wHi (kg k) (ad 4) adQ Q, wRe (kg k) (ad 5) adE E, wOr (kg k) (ad 6) adO O, wMo (kg k) hm adm S]) 748 [some (.ref b), some (.ref h), some (.ref hm), some (.int (nI (4 * i)))] []) : X k cs sl (cat [wMa h ad M, wSt (kg k) (ad 0) adN N, wSt (kg k) (ad 1) adF F, wSt (kg k) (ad 2) adP P, wHi (kg k) (ad 4) adQ Q, wRe (kg k) (ad 5) adE E, wOr (kg k) (ad 6) adO O, wMo (kg k) hm adm S]) 403 [some (.ref b), some (.ref h), some (.ref hm), some (.int (nI (4 * i)))] [] := by
  refine x_aload_n (pc' := 404) C dL_law_403 rfl rfl rfl ?_
  obtain ⟨hox, hor, heq, hrel2⟩ := sim_clearText M N F P Q E O S i  hrel hi5
  obtain ⟨zx, ezx⟩ : ∃ z, z = (f_X6_clearText M O) := ⟨_, rfl⟩
  obtain ⟨zr, ezr⟩ : ∃ z, z = (f_X7_clearText S) := ⟨_, rfl⟩
  rw [← ezx, ← ezr] at heq hrel2
  have hcx := c_X6_clearText (kl k) (kg k) h ad M adO O
  rw [← ezx] at hcx
  refine x_catWV (st := []) (st2 := [.int zx.1]) (pc' := 407) (wcs := [wMa h ad M, wOr (kg k) (ad 6) adO O]) (wrs := [wSt (kg k) (ad 0) adN N, wSt (kg k) (ad 1) adF F, wSt (kg k) (ad 2) adP P, wHi (kg k) (ad 4) adQ Q, wRe (kg k) (ad 5) adE E, wMo (kg k) hm adm S]) (wcs' := [wMa h ad M, wOr (kg k) (ad 6) adO zx.2]) C B [wMa h ad M, wSt (kg k) (ad 0) adN N, wSt (kg k) (ad 1) adF F, wSt (kg k) (ad 2) adP P, wHi (kg k) (ad 4) adQ Q, wRe (kg k) (ad 5) adE E, wOr (kg k) (ad 6) adO zx.2, wMo (kg k) hm adm S] hcx rfl rfl cw_L_53 ok_X6_clearText rfl (by decide) rfl rfl [1, 2, 3, 4, 5, 7, 0, 6] [6, 0, 1, 2, 3, 4, 7, 5] rfl rfl rfl rfl rfl (Nat.le_of_ble_eq_true rfl) hcs hsl rfl dL_law_404 rfl rfl ?_
  refine x_aload_n (pc' := 408) C dL_law_407 rfl rfl rfl ?_
  have hcr := c_X7_clearText (kl k) (kg k) hm adm S 
  rw [← ezr] at hcr
  refine x_catWV (st := [.int zx.1]) (st2 := [.int zr.1, .int zx.1]) (pc' := 411) (wcs := [wMo (kg k) hm adm S]) (wrs := [wMa h ad M, wSt (kg k) (ad 0) adN N, wSt (kg k) (ad 1) adF F, wSt (kg k) (ad 2) adP P, wHi (kg k) (ad 4) adQ Q, wRe (kg k) (ad 5) adE E, wOr (kg k) (ad 6) adO zx.2]) (wcs' := [wMo (kg k) hm adm zr.2]) C B [wMa h ad M, wSt (kg k) (ad 0) adN N, wSt (kg k) (ad 1) adF F, wSt (kg k) (ad 2) adP P, wHi (kg k) (ad 4) adQ Q, wRe (kg k) (ad 5) adE E, wOr (kg k) (ad 6) adO zx.2, wMo (kg k) hm adm zr.2] hcr (by simp only [cat, List.append_nil]) (by simp only [cat, List.append_nil]) cw_L_57 ok_X7_clearText rfl (by decide) rfl rfl [0, 1, 2, 3, 4, 5, 6, 7] [0, 1, 2, 3, 4, 5, 6, 7] rfl rfl rfl rfl rfl (Nat.le_of_ble_eq_true rfl) hcs hsl rfl dL_law_408 rfl rfl ?_
  refine x_icmp_eq (tgt := 748) (pc' := 414) C dL_law_411 (by decide) rfl (fun _ => ?_) (fun c => absurd heq c)
  exact next M N F P Q E zx.2 zr.2 hrel2

set_option maxRecDepth 100000 in
set_option maxHeartbeats 8000000 in
theorem law_op10 {k : KT} {post : Option Value → va_W → Prop} {cs sl : Nat} (C : Ck k RL cL_law (some .boolean) 12 600000 7302250 post) (B : Cw k) (hcs : cs ≤ 600000) (hsl : sl ≤ 7302250) {b N0 : Nat} {xs : Nat → Int32} (hX : va_X b N0 xs (ks k) (ks k).heap) (hb : b < (ks k).heap.size) (hbA : ¬ kA k b) {i : Nat} (hi4 : 4 * i + 4 ≤ N0) (hi2 : N0 ≤ 2048) (hi5 : i < 512) {h hm : Nat} {ad adN adF adP adQ adE adO adm : Nat → Nat} (M : CS) (N : CS) (F : CS) (P : CS) (Q : HS) (E : CS) (O : CS) (S : CS) (hrel : REL M N F P Q E O S i) (next : ∀ (M : CS) (N : CS) (F : CS) (P : CS) (Q : HS) (E : CS) (O : CS) (S : CS), REL M N F P Q E O S (i + 1) → X k cs sl (cat [wMa h ad M, wSt (kg k) (ad 0) adN N, wSt (kg k) (ad 1) adF F, wSt (kg k) (ad 2) adP P, wHi (kg k) (ad 4) adQ Q, wRe (kg k) (ad 5) adE E, wOr (kg k) (ad 6) adO O, wMo (kg k) hm adm S]) 748 [some (.ref b), some (.ref h), some (.ref hm), some (.int (nI (4 * i)))] []) : X k cs sl (cat [wMa h ad M, wSt (kg k) (ad 0) adN N, wSt (kg k) (ad 1) adF F, wSt (kg k) (ad 2) adP P, wHi (kg k) (ad 4) adQ Q, wRe (kg k) (ad 5) adE E, wOr (kg k) (ad 6) adO O, wMo (kg k) hm adm S]) 416 [some (.ref b), some (.ref h), some (.ref hm), some (.int (nI (4 * i)))] [] := by
  refine x_aload_n (pc' := 417) C dL_law_416 rfl rfl rfl ?_
  obtain ⟨hox, hor, heq, hrel2⟩ := sim_perform M N F P Q E O S i  hrel hi5
  obtain ⟨zx, ezx⟩ : ∃ z, z = (f_X6_perform M N F Q E O) := ⟨_, rfl⟩
  obtain ⟨zr, ezr⟩ : ∃ z, z = (f_X7_perform S) := ⟨_, rfl⟩
  rw [← ezx, ← ezr] at heq hrel2
  have hcx := c_X6_perform (kl k) (kg k) h ad M adN N adF F adQ Q adE E adO O hox
  rw [← ezx] at hcx
  refine x_catWV (st := []) (st2 := [.int zx.1]) (pc' := 420) (wcs := [wMa h ad M, wSt (kg k) (ad 0) adN N, wSt (kg k) (ad 1) adF F, wHi (kg k) (ad 4) adQ Q, wRe (kg k) (ad 5) adE E, wOr (kg k) (ad 6) adO O]) (wrs := [wSt (kg k) (ad 2) adP P, wMo (kg k) hm adm S]) (wcs' := [wMa h ad zx.2.1, wSt (kg k) (ad 0) adN zx.2.2.1, wSt (kg k) (ad 1) adF zx.2.2.2.1, wHi (kg k) (ad 4) adQ zx.2.2.2.2.1, wRe (kg k) (ad 5) adE zx.2.2.2.2.2.1, wOr (kg k) (ad 6) adO zx.2.2.2.2.2.2]) C B [wMa h ad zx.2.1, wSt (kg k) (ad 0) adN zx.2.2.1, wSt (kg k) (ad 1) adF zx.2.2.2.1, wSt (kg k) (ad 2) adP P, wHi (kg k) (ad 4) adQ zx.2.2.2.2.1, wRe (kg k) (ad 5) adE zx.2.2.2.2.2.1, wOr (kg k) (ad 6) adO zx.2.2.2.2.2.2, wMo (kg k) hm adm S] hcx rfl rfl cw_L_58 ok_X6_perform rfl (by decide) rfl rfl [3, 7, 0, 1, 2, 4, 5, 6] [2, 3, 4, 0, 5, 6, 7, 1] rfl rfl rfl rfl rfl (Nat.le_of_ble_eq_true rfl) hcs hsl rfl dL_law_417 rfl rfl ?_
  refine x_aload_n (pc' := 421) C dL_law_420 rfl rfl rfl ?_
  have hcr := c_X7_perform (kl k) (kg k) hm adm S  hor
  rw [← ezr] at hcr
  refine x_catWV (st := [.int zx.1]) (st2 := [.int zr.1, .int zx.1]) (pc' := 424) (wcs := [wMo (kg k) hm adm S]) (wrs := [wMa h ad zx.2.1, wSt (kg k) (ad 0) adN zx.2.2.1, wSt (kg k) (ad 1) adF zx.2.2.2.1, wSt (kg k) (ad 2) adP P, wHi (kg k) (ad 4) adQ zx.2.2.2.2.1, wRe (kg k) (ad 5) adE zx.2.2.2.2.2.1, wOr (kg k) (ad 6) adO zx.2.2.2.2.2.2]) (wcs' := [wMo (kg k) hm adm zr.2]) C B [wMa h ad zx.2.1, wSt (kg k) (ad 0) adN zx.2.2.1, wSt (kg k) (ad 1) adF zx.2.2.2.1, wSt (kg k) (ad 2) adP P, wHi (kg k) (ad 4) adQ zx.2.2.2.2.1, wRe (kg k) (ad 5) adE zx.2.2.2.2.2.1, wOr (kg k) (ad 6) adO zx.2.2.2.2.2.2, wMo (kg k) hm adm zr.2] hcr (by simp only [cat, List.append_nil]) (by simp only [cat, List.append_nil]) cw_L_61 ok_X7_perform rfl (by decide) rfl rfl [0, 1, 2, 3, 4, 5, 6, 7] [0, 1, 2, 3, 4, 5, 6, 7] rfl rfl rfl rfl rfl (Nat.le_of_ble_eq_true rfl) hcs hsl rfl dL_law_421 rfl rfl ?_
  refine x_icmp_eq (tgt := 748) (pc' := 427) C dL_law_424 (by decide) rfl (fun _ => ?_) (fun c => absurd heq c)
  exact next zx.2.1 zx.2.2.1 zx.2.2.2.1 P zx.2.2.2.2.1 zx.2.2.2.2.2.1 zx.2.2.2.2.2.2 zr.2 hrel2

set_option maxRecDepth 100000 in
set_option maxHeartbeats 8000000 in
theorem law_op11 {k : KT} {post : Option Value → va_W → Prop} {cs sl : Nat} (C : Ck k RL cL_law (some .boolean) 12 600000 7302250 post) (B : Cw k) (hcs : cs ≤ 600000) (hsl : sl ≤ 7302250) {b N0 : Nat} {xs : Nat → Int32} (hX : va_X b N0 xs (ks k) (ks k).heap) (hb : b < (ks k).heap.size) (hbA : ¬ kA k b) {i : Nat} (hi4 : 4 * i + 4 ≤ N0) (hi2 : N0 ≤ 2048) (hi5 : i < 512) {h hm : Nat} {ad adN adF adP adQ adE adO adm : Nat → Nat} (M : CS) (N : CS) (F : CS) (P : CS) (Q : HS) (E : CS) (O : CS) (S : CS) (hrel : REL M N F P Q E O S i) (next : ∀ (M : CS) (N : CS) (F : CS) (P : CS) (Q : HS) (E : CS) (O : CS) (S : CS), REL M N F P Q E O S (i + 1) → X k cs sl (cat [wMa h ad M, wSt (kg k) (ad 0) adN N, wSt (kg k) (ad 1) adF F, wSt (kg k) (ad 2) adP P, wHi (kg k) (ad 4) adQ Q, wRe (kg k) (ad 5) adE E, wOr (kg k) (ad 6) adO O, wMo (kg k) hm adm S]) 748 [some (.ref b), some (.ref h), some (.ref hm), some (.int (nI (4 * i)))] []) : X k cs sl (cat [wMa h ad M, wSt (kg k) (ad 0) adN N, wSt (kg k) (ad 1) adF F, wSt (kg k) (ad 2) adP P, wHi (kg k) (ad 4) adQ Q, wRe (kg k) (ad 5) adE E, wOr (kg k) (ad 6) adO O, wMo (kg k) hm adm S]) 429 [some (.ref b), some (.ref h), some (.ref hm), some (.int (nI (4 * i)))] [] := by
  refine x_aload_n (pc' := 430) C dL_law_429 rfl rfl rfl ?_
  refine x_aload_n (pc' := 431) C dL_law_430 rfl rfl rfl ?_
  refine x_iload_n (pc' := 432) C dL_law_431 rfl rfl rfl ?_
  refine x_iconst (v := 1) (pc' := 433) C dL_law_432 rfl (by decide) ?_
  refine x_iadd (v := nI (4 * i + 1)) (pc' := 434) C dL_law_433 rfl (nI_add (4 * i) 1) ?_
  refine x_sld (j := 4 * i + 1) (pc' := 435) C hX hb hbA (by omega) (by omega) dL_law_434 rfl ?_
  obtain ⟨hox, hor, heq, hrel2⟩ := sim_stopped M N F P Q E O S i (xs (4 * i + 1)) hrel hi5
  obtain ⟨zx, ezx⟩ : ∃ z, z = (f_X6_stopped M (xs (4 * i + 1))) := ⟨_, rfl⟩
  obtain ⟨zr, ezr⟩ : ∃ z, z = (f_X7_stopped S (xs (4 * i + 1))) := ⟨_, rfl⟩
  rw [← ezx, ← ezr] at heq
  have hcx := c_X6_stopped (kl k) (kg k) h ad M (xs (4 * i + 1))
  rw [← ezx] at hcx
  refine x_catRV (st := []) (st2 := [.int zx]) (pc' := 438) (wcs := [wMa h ad M]) C hcx rfl cw_L_62 ok_X6_stopped rfl (by decide) rfl rfl [0] rfl rfl rfl (Nat.le_of_ble_eq_true rfl) hcs hsl rfl dL_law_435 rfl rfl ?_
  refine x_aload_n (pc' := 439) C dL_law_438 rfl rfl rfl ?_
  refine x_aload_n (pc' := 440) C dL_law_439 rfl rfl rfl ?_
  refine x_iload_n (pc' := 441) C dL_law_440 rfl rfl rfl ?_
  refine x_iconst (v := 1) (pc' := 442) C dL_law_441 rfl (by decide) ?_
  refine x_iadd (v := nI (4 * i + 1)) (pc' := 443) C dL_law_442 rfl (nI_add (4 * i) 1) ?_
  refine x_sld (j := 4 * i + 1) (pc' := 444) C hX hb hbA (by omega) (by omega) dL_law_443 rfl ?_
  have hcr := c_X7_stopped (kl k) (kg k) hm adm S (xs (4 * i + 1))
  rw [← ezr] at hcr
  refine x_catRV (st := [.int zx]) (st2 := [.int zr, .int zx]) (pc' := 447) (wcs := [wMo (kg k) hm adm S]) C hcr (by simp only [cat, List.append_nil]) cw_L_65 ok_X7_stopped rfl (by decide) rfl rfl [7] rfl rfl rfl (Nat.le_of_ble_eq_true rfl) hcs hsl rfl dL_law_444 rfl rfl ?_
  refine x_icmp_eq (tgt := 748) (pc' := 450) C dL_law_447 (by decide) rfl (fun _ => ?_) (fun c => absurd heq c)
  exact next M N F P Q E O S hrel2

set_option maxRecDepth 100000 in
set_option maxHeartbeats 8000000 in
theorem law_op12 {k : KT} {post : Option Value → va_W → Prop} {cs sl : Nat} (C : Ck k RL cL_law (some .boolean) 12 600000 7302250 post) (B : Cw k) (hcs : cs ≤ 600000) (hsl : sl ≤ 7302250) {b N0 : Nat} {xs : Nat → Int32} (hX : va_X b N0 xs (ks k) (ks k).heap) (hb : b < (ks k).heap.size) (hbA : ¬ kA k b) {i : Nat} (hi4 : 4 * i + 4 ≤ N0) (hi2 : N0 ≤ 2048) (hi5 : i < 512) {h hm : Nat} {ad adN adF adP adQ adE adO adm : Nat → Nat} (M : CS) (N : CS) (F : CS) (P : CS) (Q : HS) (E : CS) (O : CS) (S : CS) (hrel : REL M N F P Q E O S i) (next : ∀ (M : CS) (N : CS) (F : CS) (P : CS) (Q : HS) (E : CS) (O : CS) (S : CS), REL M N F P Q E O S (i + 1) → X k cs sl (cat [wMa h ad M, wSt (kg k) (ad 0) adN N, wSt (kg k) (ad 1) adF F, wSt (kg k) (ad 2) adP P, wHi (kg k) (ad 4) adQ Q, wRe (kg k) (ad 5) adE E, wOr (kg k) (ad 6) adO O, wMo (kg k) hm adm S]) 748 [some (.ref b), some (.ref h), some (.ref hm), some (.int (nI (4 * i)))] []) : X k cs sl (cat [wMa h ad M, wSt (kg k) (ad 0) adN N, wSt (kg k) (ad 1) adF F, wSt (kg k) (ad 2) adP P, wHi (kg k) (ad 4) adQ Q, wRe (kg k) (ad 5) adE E, wOr (kg k) (ad 6) adO O, wMo (kg k) hm adm S]) 452 [some (.ref b), some (.ref h), some (.ref hm), some (.int (nI (4 * i)))] [] := by
  refine x_aload_n (pc' := 453) C dL_law_452 rfl rfl rfl ?_
  obtain ⟨hox, hor, heq, hrel2⟩ := sim_undo M N F P Q E O S i  hrel hi5
  obtain ⟨zx, ezx⟩ : ∃ z, z = (f_X6_undo M N Q) := ⟨_, rfl⟩
  obtain ⟨zr, ezr⟩ : ∃ z, z = (f_X7_undo S) := ⟨_, rfl⟩
  rw [← ezx, ← ezr] at heq hrel2
  have hcx := c_X6_undo (kl k) (kg k) h ad M adN N adQ Q hox
  rw [← ezx] at hcx
  refine x_catWV (st := []) (st2 := [.int zx.1]) (pc' := 456) (wcs := [wMa h ad M, wSt (kg k) (ad 0) adN N, wHi (kg k) (ad 4) adQ Q]) (wrs := [wSt (kg k) (ad 1) adF F, wSt (kg k) (ad 2) adP P, wRe (kg k) (ad 5) adE E, wOr (kg k) (ad 6) adO O, wMo (kg k) hm adm S]) (wcs' := [wMa h ad M, wSt (kg k) (ad 0) adN zx.2.1, wHi (kg k) (ad 4) adQ zx.2.2]) C B [wMa h ad M, wSt (kg k) (ad 0) adN zx.2.1, wSt (kg k) (ad 1) adF F, wSt (kg k) (ad 2) adP P, wHi (kg k) (ad 4) adQ zx.2.2, wRe (kg k) (ad 5) adE E, wOr (kg k) (ad 6) adO O, wMo (kg k) hm adm S] hcx rfl rfl cw_L_66 ok_X6_undo rfl (by decide) rfl rfl [2, 3, 5, 6, 7, 0, 1, 4] [5, 6, 0, 1, 7, 2, 3, 4] rfl rfl rfl rfl rfl (Nat.le_of_ble_eq_true rfl) hcs hsl rfl dL_law_453 rfl rfl ?_
  refine x_aload_n (pc' := 457) C dL_law_456 rfl rfl rfl ?_
  have hcr := c_X7_undo (kl k) (kg k) hm adm S  hor
  rw [← ezr] at hcr
  refine x_catWV (st := [.int zx.1]) (st2 := [.int zr.1, .int zx.1]) (pc' := 460) (wcs := [wMo (kg k) hm adm S]) (wrs := [wMa h ad M, wSt (kg k) (ad 0) adN zx.2.1, wSt (kg k) (ad 1) adF F, wSt (kg k) (ad 2) adP P, wHi (kg k) (ad 4) adQ zx.2.2, wRe (kg k) (ad 5) adE E, wOr (kg k) (ad 6) adO O]) (wcs' := [wMo (kg k) hm adm zr.2]) C B [wMa h ad M, wSt (kg k) (ad 0) adN zx.2.1, wSt (kg k) (ad 1) adF F, wSt (kg k) (ad 2) adP P, wHi (kg k) (ad 4) adQ zx.2.2, wRe (kg k) (ad 5) adE E, wOr (kg k) (ad 6) adO O, wMo (kg k) hm adm zr.2] hcr (by simp only [cat, List.append_nil]) (by simp only [cat, List.append_nil]) cw_L_69 ok_X7_undo rfl (by decide) rfl rfl [0, 1, 2, 3, 4, 5, 6, 7] [0, 1, 2, 3, 4, 5, 6, 7] rfl rfl rfl rfl rfl (Nat.le_of_ble_eq_true rfl) hcs hsl rfl dL_law_457 rfl rfl ?_
  refine x_icmp_eq (tgt := 748) (pc' := 463) C dL_law_460 (by decide) rfl (fun _ => ?_) (fun c => absurd heq c)
  exact next M zx.2.1 F P zx.2.2 E O zr.2 hrel2

set_option maxRecDepth 100000 in
set_option maxHeartbeats 8000000 in
theorem law_op13 {k : KT} {post : Option Value → va_W → Prop} {cs sl : Nat} (C : Ck k RL cL_law (some .boolean) 12 600000 7302250 post) (B : Cw k) (hcs : cs ≤ 600000) (hsl : sl ≤ 7302250) {b N0 : Nat} {xs : Nat → Int32} (hX : va_X b N0 xs (ks k) (ks k).heap) (hb : b < (ks k).heap.size) (hbA : ¬ kA k b) {i : Nat} (hi4 : 4 * i + 4 ≤ N0) (hi2 : N0 ≤ 2048) (hi5 : i < 512) {h hm : Nat} {ad adN adF adP adQ adE adO adm : Nat → Nat} (M : CS) (N : CS) (F : CS) (P : CS) (Q : HS) (E : CS) (O : CS) (S : CS) (hrel : REL M N F P Q E O S i) (next : ∀ (M : CS) (N : CS) (F : CS) (P : CS) (Q : HS) (E : CS) (O : CS) (S : CS), REL M N F P Q E O S (i + 1) → X k cs sl (cat [wMa h ad M, wSt (kg k) (ad 0) adN N, wSt (kg k) (ad 1) adF F, wSt (kg k) (ad 2) adP P, wHi (kg k) (ad 4) adQ Q, wRe (kg k) (ad 5) adE E, wOr (kg k) (ad 6) adO O, wMo (kg k) hm adm S]) 748 [some (.ref b), some (.ref h), some (.ref hm), some (.int (nI (4 * i)))] []) : X k cs sl (cat [wMa h ad M, wSt (kg k) (ad 0) adN N, wSt (kg k) (ad 1) adF F, wSt (kg k) (ad 2) adP P, wHi (kg k) (ad 4) adQ Q, wRe (kg k) (ad 5) adE E, wOr (kg k) (ad 6) adO O, wMo (kg k) hm adm S]) 465 [some (.ref b), some (.ref h), some (.ref hm), some (.int (nI (4 * i)))] [] := by
  refine x_aload_n (pc' := 466) C dL_law_465 rfl rfl rfl ?_
  obtain ⟨hox, hor, heq, hrel2⟩ := sim_keep M N F P Q E O S i  hrel hi5
  obtain ⟨zx, ezx⟩ : ∃ z, z = (f_X6_keep M N P) := ⟨_, rfl⟩
  obtain ⟨zr, ezr⟩ : ∃ z, z = (f_X7_keep S) := ⟨_, rfl⟩
  rw [← ezx, ← ezr] at heq hrel2
  have hcx := c_X6_keep (kl k) (kg k) h ad M adN N adP P
  rw [← ezx] at hcx
  refine x_catWV (st := []) (st2 := [.int zx.1]) (pc' := 469) (wcs := [wMa h ad M, wSt (kg k) (ad 0) adN N, wSt (kg k) (ad 2) adP P]) (wrs := [wSt (kg k) (ad 1) adF F, wHi (kg k) (ad 4) adQ Q, wRe (kg k) (ad 5) adE E, wOr (kg k) (ad 6) adO O, wMo (kg k) hm adm S]) (wcs' := [wMa h ad zx.2.1, wSt (kg k) (ad 0) adN N, wSt (kg k) (ad 2) adP zx.2.2]) C B [wMa h ad zx.2.1, wSt (kg k) (ad 0) adN N, wSt (kg k) (ad 1) adF F, wSt (kg k) (ad 2) adP zx.2.2, wHi (kg k) (ad 4) adQ Q, wRe (kg k) (ad 5) adE E, wOr (kg k) (ad 6) adO O, wMo (kg k) hm adm S] hcx rfl rfl cw_L_70 ok_X6_keep rfl (by decide) rfl rfl [2, 4, 5, 6, 7, 0, 1, 3] [5, 6, 0, 7, 1, 2, 3, 4] rfl rfl rfl rfl rfl (Nat.le_of_ble_eq_true rfl) hcs hsl rfl dL_law_466 rfl rfl ?_
  refine x_aload_n (pc' := 470) C dL_law_469 rfl rfl rfl ?_
  have hcr := c_X7_keep (kl k) (kg k) hm adm S  hor
  rw [← ezr] at hcr
  refine x_catWV (st := [.int zx.1]) (st2 := [.int zr.1, .int zx.1]) (pc' := 473) (wcs := [wMo (kg k) hm adm S]) (wrs := [wMa h ad zx.2.1, wSt (kg k) (ad 0) adN N, wSt (kg k) (ad 1) adF F, wSt (kg k) (ad 2) adP zx.2.2, wHi (kg k) (ad 4) adQ Q, wRe (kg k) (ad 5) adE E, wOr (kg k) (ad 6) adO O]) (wcs' := [wMo (kg k) hm adm zr.2]) C B [wMa h ad zx.2.1, wSt (kg k) (ad 0) adN N, wSt (kg k) (ad 1) adF F, wSt (kg k) (ad 2) adP zx.2.2, wHi (kg k) (ad 4) adQ Q, wRe (kg k) (ad 5) adE E, wOr (kg k) (ad 6) adO O, wMo (kg k) hm adm zr.2] hcr (by simp only [cat, List.append_nil]) (by simp only [cat, List.append_nil]) cw_L_73 ok_X7_keep rfl (by decide) rfl rfl [0, 1, 2, 3, 4, 5, 6, 7] [0, 1, 2, 3, 4, 5, 6, 7] rfl rfl rfl rfl rfl (Nat.le_of_ble_eq_true rfl) hcs hsl rfl dL_law_470 rfl rfl ?_
  refine x_icmp_eq (tgt := 748) (pc' := 476) C dL_law_473 (by decide) rfl (fun _ => ?_) (fun c => absurd heq c)
  exact next zx.2.1 N F zx.2.2 Q E O zr.2 hrel2

set_option maxRecDepth 100000 in
set_option maxHeartbeats 8000000 in
theorem law_op14 {k : KT} {post : Option Value → va_W → Prop} {cs sl : Nat} (C : Ck k RL cL_law (some .boolean) 12 600000 7302250 post) (B : Cw k) (hcs : cs ≤ 600000) (hsl : sl ≤ 7302250) {b N0 : Nat} {xs : Nat → Int32} (hX : va_X b N0 xs (ks k) (ks k).heap) (hb : b < (ks k).heap.size) (hbA : ¬ kA k b) {i : Nat} (hi4 : 4 * i + 4 ≤ N0) (hi2 : N0 ≤ 2048) (hi5 : i < 512) {h hm : Nat} {ad adN adF adP adQ adE adO adm : Nat → Nat} (M : CS) (N : CS) (F : CS) (P : CS) (Q : HS) (E : CS) (O : CS) (S : CS) (hrel : REL M N F P Q E O S i) (next : ∀ (M : CS) (N : CS) (F : CS) (P : CS) (Q : HS) (E : CS) (O : CS) (S : CS), REL M N F P Q E O S (i + 1) → X k cs sl (cat [wMa h ad M, wSt (kg k) (ad 0) adN N, wSt (kg k) (ad 1) adF F, wSt (kg k) (ad 2) adP P, wHi (kg k) (ad 4) adQ Q, wRe (kg k) (ad 5) adE E, wOr (kg k) (ad 6) adO O, wMo (kg k) hm adm S]) 748 [some (.ref b), some (.ref h), some (.ref hm), some (.int (nI (4 * i)))] []) : X k cs sl (cat [wMa h ad M, wSt (kg k) (ad 0) adN N, wSt (kg k) (ad 1) adF F, wSt (kg k) (ad 2) adP P, wHi (kg k) (ad 4) adQ Q, wRe (kg k) (ad 5) adE E, wOr (kg k) (ad 6) adO O, wMo (kg k) hm adm S]) 478 [some (.ref b), some (.ref h), some (.ref hm), some (.int (nI (4 * i)))] [] := by
  refine x_aload_n (pc' := 479) C dL_law_478 rfl rfl rfl ?_
  obtain ⟨hox, hor, heq, hrel2⟩ := sim_restore M N F P Q E O S i  hrel hi5
  obtain ⟨zx, ezx⟩ : ∃ z, z = (f_X6_restore M N F P Q) := ⟨_, rfl⟩
  obtain ⟨zr, ezr⟩ : ∃ z, z = (f_X7_restore S) := ⟨_, rfl⟩
  rw [← ezx, ← ezr] at heq hrel2
  have hcx := c_X6_restore (kl k) (kg k) h ad M adN N adF F adP P adQ Q hox
  rw [← ezx] at hcx
  refine x_catWV (st := []) (st2 := [.int zx.1]) (pc' := 482) (wcs := [wMa h ad M, wSt (kg k) (ad 0) adN N, wSt (kg k) (ad 1) adF F, wSt (kg k) (ad 2) adP P, wHi (kg k) (ad 4) adQ Q]) (wrs := [wRe (kg k) (ad 5) adE E, wOr (kg k) (ad 6) adO O, wMo (kg k) hm adm S]) (wcs' := [wMa h ad M, wSt (kg k) (ad 0) adN zx.2.1, wSt (kg k) (ad 1) adF zx.2.2.1, wSt (kg k) (ad 2) adP P, wHi (kg k) (ad 4) adQ zx.2.2.2]) C B [wMa h ad M, wSt (kg k) (ad 0) adN zx.2.1, wSt (kg k) (ad 1) adF zx.2.2.1, wSt (kg k) (ad 2) adP P, wHi (kg k) (ad 4) adQ zx.2.2.2, wRe (kg k) (ad 5) adE E, wOr (kg k) (ad 6) adO O, wMo (kg k) hm adm S] hcx rfl rfl cw_L_74 ok_X6_restore rfl (by decide) rfl rfl [5, 6, 7, 0, 1, 2, 3, 4] [3, 4, 5, 6, 7, 0, 1, 2] rfl rfl rfl rfl rfl (Nat.le_of_ble_eq_true rfl) hcs hsl rfl dL_law_479 rfl rfl ?_
  refine x_aload_n (pc' := 483) C dL_law_482 rfl rfl rfl ?_
  have hcr := c_X7_restore (kl k) (kg k) hm adm S  hor
  rw [← ezr] at hcr
  refine x_catWV (st := [.int zx.1]) (st2 := [.int zr.1, .int zx.1]) (pc' := 486) (wcs := [wMo (kg k) hm adm S]) (wrs := [wMa h ad M, wSt (kg k) (ad 0) adN zx.2.1, wSt (kg k) (ad 1) adF zx.2.2.1, wSt (kg k) (ad 2) adP P, wHi (kg k) (ad 4) adQ zx.2.2.2, wRe (kg k) (ad 5) adE E, wOr (kg k) (ad 6) adO O]) (wcs' := [wMo (kg k) hm adm zr.2]) C B [wMa h ad M, wSt (kg k) (ad 0) adN zx.2.1, wSt (kg k) (ad 1) adF zx.2.2.1, wSt (kg k) (ad 2) adP P, wHi (kg k) (ad 4) adQ zx.2.2.2, wRe (kg k) (ad 5) adE E, wOr (kg k) (ad 6) adO O, wMo (kg k) hm adm zr.2] hcr (by simp only [cat, List.append_nil]) (by simp only [cat, List.append_nil]) cw_L_77 ok_X7_restore rfl (by decide) rfl rfl [0, 1, 2, 3, 4, 5, 6, 7] [0, 1, 2, 3, 4, 5, 6, 7] rfl rfl rfl rfl rfl (Nat.le_of_ble_eq_true rfl) hcs hsl rfl dL_law_483 rfl rfl ?_
  refine x_icmp_eq (tgt := 748) (pc' := 489) C dL_law_486 (by decide) rfl (fun _ => ?_) (fun c => absurd heq c)
  exact next M zx.2.1 zx.2.2.1 P zx.2.2.2 E O zr.2 hrel2

set_option maxRecDepth 100000 in
set_option maxHeartbeats 8000000 in
theorem law_op15 {k : KT} {post : Option Value → va_W → Prop} {cs sl : Nat} (C : Ck k RL cL_law (some .boolean) 12 600000 7302250 post) (B : Cw k) (hcs : cs ≤ 600000) (hsl : sl ≤ 7302250) {b N0 : Nat} {xs : Nat → Int32} (hX : va_X b N0 xs (ks k) (ks k).heap) (hb : b < (ks k).heap.size) (hbA : ¬ kA k b) {i : Nat} (hi4 : 4 * i + 4 ≤ N0) (hi2 : N0 ≤ 2048) (hi5 : i < 512) {h hm : Nat} {ad adN adF adP adQ adE adO adm : Nat → Nat} (M : CS) (N : CS) (F : CS) (P : CS) (Q : HS) (E : CS) (O : CS) (S : CS) (hrel : REL M N F P Q E O S i) (next : ∀ (M : CS) (N : CS) (F : CS) (P : CS) (Q : HS) (E : CS) (O : CS) (S : CS), REL M N F P Q E O S (i + 1) → X k cs sl (cat [wMa h ad M, wSt (kg k) (ad 0) adN N, wSt (kg k) (ad 1) adF F, wSt (kg k) (ad 2) adP P, wHi (kg k) (ad 4) adQ Q, wRe (kg k) (ad 5) adE E, wOr (kg k) (ad 6) adO O, wMo (kg k) hm adm S]) 748 [some (.ref b), some (.ref h), some (.ref hm), some (.int (nI (4 * i)))] []) : X k cs sl (cat [wMa h ad M, wSt (kg k) (ad 0) adN N, wSt (kg k) (ad 1) adF F, wSt (kg k) (ad 2) adP P, wHi (kg k) (ad 4) adQ Q, wRe (kg k) (ad 5) adE E, wOr (kg k) (ad 6) adO O, wMo (kg k) hm adm S]) 491 [some (.ref b), some (.ref h), some (.ref hm), some (.int (nI (4 * i)))] [] := by
  refine x_aload_n (pc' := 492) C dL_law_491 rfl rfl rfl ?_
  refine x_aload_n (pc' := 493) C dL_law_492 rfl rfl rfl ?_
  refine x_iload_n (pc' := 494) C dL_law_493 rfl rfl rfl ?_
  refine x_iconst (v := 1) (pc' := 495) C dL_law_494 rfl (by decide) ?_
  refine x_iadd (v := nI (4 * i + 1)) (pc' := 496) C dL_law_495 rfl (nI_add (4 * i) 1) ?_
  refine x_sld (j := 4 * i + 1) (pc' := 497) C hX hb hbA (by omega) (by omega) dL_law_496 rfl ?_
  refine x_aload_n (pc' := 498) C dL_law_497 rfl rfl rfl ?_
  refine x_iload_n (pc' := 499) C dL_law_498 rfl rfl rfl ?_
  refine x_iconst (v := 2) (pc' := 500) C dL_law_499 rfl (by decide) ?_
  refine x_iadd (v := nI (4 * i + 2)) (pc' := 501) C dL_law_500 rfl (nI_add (4 * i) 2) ?_
  refine x_sld (j := 4 * i + 2) (pc' := 502) C hX hb hbA (by omega) (by omega) dL_law_501 rfl ?_
  obtain ⟨hox, hor, heq, hrel2⟩ := sim_cell M N F P Q E O S i (xs (4 * i + 1)) (xs (4 * i + 2)) hrel hi5
  obtain ⟨zx, ezx⟩ : ∃ z, z = (f_X6_cell M N (xs (4 * i + 1)) (xs (4 * i + 2))) := ⟨_, rfl⟩
  obtain ⟨zr, ezr⟩ : ∃ z, z = (f_X7_cell S (xs (4 * i + 1)) (xs (4 * i + 2))) := ⟨_, rfl⟩
  rw [← ezx, ← ezr] at heq
  have hcx := c_X6_cell (kl k) (kg k) h ad M adN N (xs (4 * i + 1)) (xs (4 * i + 2))
  rw [← ezx] at hcx
  refine x_catRV (st := []) (st2 := [.int zx]) (pc' := 505) (wcs := [wMa h ad M, wSt (kg k) (ad 0) adN N]) C hcx rfl cw_L_78 ok_X6_cell rfl (by decide) rfl rfl [0, 1] rfl rfl rfl (Nat.le_of_ble_eq_true rfl) hcs hsl rfl dL_law_502 rfl rfl ?_
  refine x_aload_n (pc' := 506) C dL_law_505 rfl rfl rfl ?_
  refine x_aload_n (pc' := 507) C dL_law_506 rfl rfl rfl ?_
  refine x_iload_n (pc' := 508) C dL_law_507 rfl rfl rfl ?_
  refine x_iconst (v := 1) (pc' := 509) C dL_law_508 rfl (by decide) ?_
  refine x_iadd (v := nI (4 * i + 1)) (pc' := 510) C dL_law_509 rfl (nI_add (4 * i) 1) ?_
  refine x_sld (j := 4 * i + 1) (pc' := 511) C hX hb hbA (by omega) (by omega) dL_law_510 rfl ?_
  refine x_aload_n (pc' := 512) C dL_law_511 rfl rfl rfl ?_
  refine x_iload_n (pc' := 513) C dL_law_512 rfl rfl rfl ?_
  refine x_iconst (v := 2) (pc' := 514) C dL_law_513 rfl (by decide) ?_
  refine x_iadd (v := nI (4 * i + 2)) (pc' := 515) C dL_law_514 rfl (nI_add (4 * i) 2) ?_
  refine x_sld (j := 4 * i + 2) (pc' := 516) C hX hb hbA (by omega) (by omega) dL_law_515 rfl ?_
  have hcr := c_X7_cell (kl k) (kg k) hm adm S (xs (4 * i + 1)) (xs (4 * i + 2)) hor
  rw [← ezr] at hcr
  refine x_catRV (st := [.int zx]) (st2 := [.int zr, .int zx]) (pc' := 519) (wcs := [wMo (kg k) hm adm S]) C hcr (by simp only [cat, List.append_nil]) cw_L_81 ok_X7_cell rfl (by decide) rfl rfl [7] rfl rfl rfl (Nat.le_of_ble_eq_true rfl) hcs hsl rfl dL_law_516 rfl rfl ?_
  refine x_icmp_eq (tgt := 748) (pc' := 522) C dL_law_519 (by decide) rfl (fun _ => ?_) (fun c => absurd heq c)
  exact next M N F P Q E O S hrel2

set_option maxRecDepth 100000 in
set_option maxHeartbeats 8000000 in
theorem law_op16 {k : KT} {post : Option Value → va_W → Prop} {cs sl : Nat} (C : Ck k RL cL_law (some .boolean) 12 600000 7302250 post) (B : Cw k) (hcs : cs ≤ 600000) (hsl : sl ≤ 7302250) {b N0 : Nat} {xs : Nat → Int32} (hX : va_X b N0 xs (ks k) (ks k).heap) (hb : b < (ks k).heap.size) (hbA : ¬ kA k b) {i : Nat} (hi4 : 4 * i + 4 ≤ N0) (hi2 : N0 ≤ 2048) (hi5 : i < 512) {h hm : Nat} {ad adN adF adP adQ adE adO adm : Nat → Nat} (M : CS) (N : CS) (F : CS) (P : CS) (Q : HS) (E : CS) (O : CS) (S : CS) (hrel : REL M N F P Q E O S i) (next : ∀ (M : CS) (N : CS) (F : CS) (P : CS) (Q : HS) (E : CS) (O : CS) (S : CS), REL M N F P Q E O S (i + 1) → X k cs sl (cat [wMa h ad M, wSt (kg k) (ad 0) adN N, wSt (kg k) (ad 1) adF F, wSt (kg k) (ad 2) adP P, wHi (kg k) (ad 4) adQ Q, wRe (kg k) (ad 5) adE E, wOr (kg k) (ad 6) adO O, wMo (kg k) hm adm S]) 748 [some (.ref b), some (.ref h), some (.ref hm), some (.int (nI (4 * i)))] []) : X k cs sl (cat [wMa h ad M, wSt (kg k) (ad 0) adN N, wSt (kg k) (ad 1) adF F, wSt (kg k) (ad 2) adP P, wHi (kg k) (ad 4) adQ Q, wRe (kg k) (ad 5) adE E, wOr (kg k) (ad 6) adO O, wMo (kg k) hm adm S]) 524 [some (.ref b), some (.ref h), some (.ref hm), some (.int (nI (4 * i)))] [] := by
  refine x_aload_n (pc' := 525) C dL_law_524 rfl rfl rfl ?_
  refine x_aload_n (pc' := 526) C dL_law_525 rfl rfl rfl ?_
  refine x_iload_n (pc' := 527) C dL_law_526 rfl rfl rfl ?_
  refine x_iconst (v := 1) (pc' := 528) C dL_law_527 rfl (by decide) ?_
  refine x_iadd (v := nI (4 * i + 1)) (pc' := 529) C dL_law_528 rfl (nI_add (4 * i) 1) ?_
  refine x_sld (j := 4 * i + 1) (pc' := 530) C hX hb hbA (by omega) (by omega) dL_law_529 rfl ?_
  refine x_aload_n (pc' := 531) C dL_law_530 rfl rfl rfl ?_
  refine x_iload_n (pc' := 532) C dL_law_531 rfl rfl rfl ?_
  refine x_iconst (v := 2) (pc' := 533) C dL_law_532 rfl (by decide) ?_
  refine x_iadd (v := nI (4 * i + 2)) (pc' := 534) C dL_law_533 rfl (nI_add (4 * i) 2) ?_
  refine x_sld (j := 4 * i + 2) (pc' := 535) C hX hb hbA (by omega) (by omega) dL_law_534 rfl ?_
  obtain ⟨hox, hor, heq, hrel2⟩ := sim_version M N F P Q E O S i (xs (4 * i + 1)) (xs (4 * i + 2)) hrel hi5
  obtain ⟨zx, ezx⟩ : ∃ z, z = (f_X6_version M N E (xs (4 * i + 1)) (xs (4 * i + 2))) := ⟨_, rfl⟩
  obtain ⟨zr, ezr⟩ : ∃ z, z = (f_X7_version S (xs (4 * i + 1)) (xs (4 * i + 2))) := ⟨_, rfl⟩
  rw [← ezx, ← ezr] at heq hrel2
  have hcx := c_X6_version (kl k) (kg k) h ad M adN N adE E (xs (4 * i + 1)) (xs (4 * i + 2))
  rw [← ezx] at hcx
  refine x_catWV (st := []) (st2 := [.int zx.1]) (pc' := 538) (wcs := [wMa h ad M, wSt (kg k) (ad 0) adN N, wRe (kg k) (ad 5) adE E]) (wrs := [wSt (kg k) (ad 1) adF F, wSt (kg k) (ad 2) adP P, wHi (kg k) (ad 4) adQ Q, wOr (kg k) (ad 6) adO O, wMo (kg k) hm adm S]) (wcs' := [wMa h ad M, wSt (kg k) (ad 0) adN N, wRe (kg k) (ad 5) adE zx.2]) C B [wMa h ad M, wSt (kg k) (ad 0) adN N, wSt (kg k) (ad 1) adF F, wSt (kg k) (ad 2) adP P, wHi (kg k) (ad 4) adQ Q, wRe (kg k) (ad 5) adE zx.2, wOr (kg k) (ad 6) adO O, wMo (kg k) hm adm S] hcx rfl rfl cw_L_82 ok_X6_version rfl (by decide) rfl rfl [2, 3, 4, 6, 7, 0, 1, 5] [5, 6, 0, 1, 2, 7, 3, 4] rfl rfl rfl rfl rfl (Nat.le_of_ble_eq_true rfl) hcs hsl rfl dL_law_535 rfl rfl ?_
  refine x_aload_n (pc' := 539) C dL_law_538 rfl rfl rfl ?_
  refine x_aload_n (pc' := 540) C dL_law_539 rfl rfl rfl ?_
  refine x_iload_n (pc' := 541) C dL_law_540 rfl rfl rfl ?_
  refine x_iconst (v := 1) (pc' := 542) C dL_law_541 rfl (by decide) ?_
  refine x_iadd (v := nI (4 * i + 1)) (pc' := 543) C dL_law_542 rfl (nI_add (4 * i) 1) ?_
  refine x_sld (j := 4 * i + 1) (pc' := 544) C hX hb hbA (by omega) (by omega) dL_law_543 rfl ?_
  refine x_aload_n (pc' := 545) C dL_law_544 rfl rfl rfl ?_
  refine x_iload_n (pc' := 546) C dL_law_545 rfl rfl rfl ?_
  refine x_iconst (v := 2) (pc' := 547) C dL_law_546 rfl (by decide) ?_
  refine x_iadd (v := nI (4 * i + 2)) (pc' := 548) C dL_law_547 rfl (nI_add (4 * i) 2) ?_
  refine x_sld (j := 4 * i + 2) (pc' := 549) C hX hb hbA (by omega) (by omega) dL_law_548 rfl ?_
  have hcr := c_X7_version (kl k) (kg k) hm adm S (xs (4 * i + 1)) (xs (4 * i + 2)) hor
  rw [← ezr] at hcr
  refine x_catWV (st := [.int zx.1]) (st2 := [.int zr.1, .int zx.1]) (pc' := 552) (wcs := [wMo (kg k) hm adm S]) (wrs := [wMa h ad M, wSt (kg k) (ad 0) adN N, wSt (kg k) (ad 1) adF F, wSt (kg k) (ad 2) adP P, wHi (kg k) (ad 4) adQ Q, wRe (kg k) (ad 5) adE zx.2, wOr (kg k) (ad 6) adO O]) (wcs' := [wMo (kg k) hm adm zr.2]) C B [wMa h ad M, wSt (kg k) (ad 0) adN N, wSt (kg k) (ad 1) adF F, wSt (kg k) (ad 2) adP P, wHi (kg k) (ad 4) adQ Q, wRe (kg k) (ad 5) adE zx.2, wOr (kg k) (ad 6) adO O, wMo (kg k) hm adm zr.2] hcr (by simp only [cat, List.append_nil]) (by simp only [cat, List.append_nil]) cw_L_85 ok_X7_version rfl (by decide) rfl rfl [0, 1, 2, 3, 4, 5, 6, 7] [0, 1, 2, 3, 4, 5, 6, 7] rfl rfl rfl rfl rfl (Nat.le_of_ble_eq_true rfl) hcs hsl rfl dL_law_549 rfl rfl ?_
  refine x_icmp_eq (tgt := 748) (pc' := 555) C dL_law_552 (by decide) rfl (fun _ => ?_) (fun c => absurd heq c)
  exact next M N F P Q zx.2 O zr.2 hrel2

set_option maxRecDepth 100000 in
set_option maxHeartbeats 8000000 in
theorem law_op17 {k : KT} {post : Option Value → va_W → Prop} {cs sl : Nat} (C : Ck k RL cL_law (some .boolean) 12 600000 7302250 post) (B : Cw k) (hcs : cs ≤ 600000) (hsl : sl ≤ 7302250) {b N0 : Nat} {xs : Nat → Int32} (hX : va_X b N0 xs (ks k) (ks k).heap) (hb : b < (ks k).heap.size) (hbA : ¬ kA k b) {i : Nat} (hi4 : 4 * i + 4 ≤ N0) (hi2 : N0 ≤ 2048) (hi5 : i < 512) {h hm : Nat} {ad adN adF adP adQ adE adO adm : Nat → Nat} (M : CS) (N : CS) (F : CS) (P : CS) (Q : HS) (E : CS) (O : CS) (S : CS) (hrel : REL M N F P Q E O S i) (next : ∀ (M : CS) (N : CS) (F : CS) (P : CS) (Q : HS) (E : CS) (O : CS) (S : CS), REL M N F P Q E O S (i + 1) → X k cs sl (cat [wMa h ad M, wSt (kg k) (ad 0) adN N, wSt (kg k) (ad 1) adF F, wSt (kg k) (ad 2) adP P, wHi (kg k) (ad 4) adQ Q, wRe (kg k) (ad 5) adE E, wOr (kg k) (ad 6) adO O, wMo (kg k) hm adm S]) 748 [some (.ref b), some (.ref h), some (.ref hm), some (.int (nI (4 * i)))] []) : X k cs sl (cat [wMa h ad M, wSt (kg k) (ad 0) adN N, wSt (kg k) (ad 1) adF F, wSt (kg k) (ad 2) adP P, wHi (kg k) (ad 4) adQ Q, wRe (kg k) (ad 5) adE E, wOr (kg k) (ad 6) adO O, wMo (kg k) hm adm S]) 557 [some (.ref b), some (.ref h), some (.ref hm), some (.int (nI (4 * i)))] [] := by
  refine x_aload_n (pc' := 558) C dL_law_557 rfl rfl rfl ?_
  refine x_aload_n (pc' := 559) C dL_law_558 rfl rfl rfl ?_
  refine x_iload_n (pc' := 560) C dL_law_559 rfl rfl rfl ?_
  refine x_iconst (v := 1) (pc' := 561) C dL_law_560 rfl (by decide) ?_
  refine x_iadd (v := nI (4 * i + 1)) (pc' := 562) C dL_law_561 rfl (nI_add (4 * i) 1) ?_
  refine x_sld (j := 4 * i + 1) (pc' := 563) C hX hb hbA (by omega) (by omega) dL_law_562 rfl ?_
  refine x_aload_n (pc' := 564) C dL_law_563 rfl rfl rfl ?_
  refine x_iload_n (pc' := 565) C dL_law_564 rfl rfl rfl ?_
  refine x_iconst (v := 2) (pc' := 566) C dL_law_565 rfl (by decide) ?_
  refine x_iadd (v := nI (4 * i + 2)) (pc' := 567) C dL_law_566 rfl (nI_add (4 * i) 2) ?_
  refine x_sld (j := 4 * i + 2) (pc' := 568) C hX hb hbA (by omega) (by omega) dL_law_567 rfl ?_
  obtain ⟨hox, hor, heq, hrel2⟩ := sim_way M N F P Q E O S i (xs (4 * i + 1)) (xs (4 * i + 2)) hrel hi5
  obtain ⟨zx, ezx⟩ : ∃ z, z = (f_X6_way M N E (xs (4 * i + 1)) (xs (4 * i + 2))) := ⟨_, rfl⟩
  obtain ⟨zr, ezr⟩ : ∃ z, z = (f_X7_way S (xs (4 * i + 1)) (xs (4 * i + 2))) := ⟨_, rfl⟩
  rw [← ezx, ← ezr] at heq hrel2
  have hcx := c_X6_way (kl k) (kg k) h ad M adN N adE E (xs (4 * i + 1)) (xs (4 * i + 2))
  rw [← ezx] at hcx
  refine x_catWV (st := []) (st2 := [.int zx.1]) (pc' := 571) (wcs := [wMa h ad M, wSt (kg k) (ad 0) adN N, wRe (kg k) (ad 5) adE E]) (wrs := [wSt (kg k) (ad 1) adF F, wSt (kg k) (ad 2) adP P, wHi (kg k) (ad 4) adQ Q, wOr (kg k) (ad 6) adO O, wMo (kg k) hm adm S]) (wcs' := [wMa h ad M, wSt (kg k) (ad 0) adN N, wRe (kg k) (ad 5) adE zx.2]) C B [wMa h ad M, wSt (kg k) (ad 0) adN N, wSt (kg k) (ad 1) adF F, wSt (kg k) (ad 2) adP P, wHi (kg k) (ad 4) adQ Q, wRe (kg k) (ad 5) adE zx.2, wOr (kg k) (ad 6) adO O, wMo (kg k) hm adm S] hcx rfl rfl cw_L_86 ok_X6_way rfl (by decide) rfl rfl [2, 3, 4, 6, 7, 0, 1, 5] [5, 6, 0, 1, 2, 7, 3, 4] rfl rfl rfl rfl rfl (Nat.le_of_ble_eq_true rfl) hcs hsl rfl dL_law_568 rfl rfl ?_
  refine x_aload_n (pc' := 572) C dL_law_571 rfl rfl rfl ?_
  refine x_aload_n (pc' := 573) C dL_law_572 rfl rfl rfl ?_
  refine x_iload_n (pc' := 574) C dL_law_573 rfl rfl rfl ?_
  refine x_iconst (v := 1) (pc' := 575) C dL_law_574 rfl (by decide) ?_
  refine x_iadd (v := nI (4 * i + 1)) (pc' := 576) C dL_law_575 rfl (nI_add (4 * i) 1) ?_
  refine x_sld (j := 4 * i + 1) (pc' := 577) C hX hb hbA (by omega) (by omega) dL_law_576 rfl ?_
  refine x_aload_n (pc' := 578) C dL_law_577 rfl rfl rfl ?_
  refine x_iload_n (pc' := 579) C dL_law_578 rfl rfl rfl ?_
  refine x_iconst (v := 2) (pc' := 580) C dL_law_579 rfl (by decide) ?_
  refine x_iadd (v := nI (4 * i + 2)) (pc' := 581) C dL_law_580 rfl (nI_add (4 * i) 2) ?_
  refine x_sld (j := 4 * i + 2) (pc' := 582) C hX hb hbA (by omega) (by omega) dL_law_581 rfl ?_
  have hcr := c_X7_way (kl k) (kg k) hm adm S (xs (4 * i + 1)) (xs (4 * i + 2)) hor
  rw [← ezr] at hcr
  refine x_catWV (st := [.int zx.1]) (st2 := [.int zr.1, .int zx.1]) (pc' := 585) (wcs := [wMo (kg k) hm adm S]) (wrs := [wMa h ad M, wSt (kg k) (ad 0) adN N, wSt (kg k) (ad 1) adF F, wSt (kg k) (ad 2) adP P, wHi (kg k) (ad 4) adQ Q, wRe (kg k) (ad 5) adE zx.2, wOr (kg k) (ad 6) adO O]) (wcs' := [wMo (kg k) hm adm zr.2]) C B [wMa h ad M, wSt (kg k) (ad 0) adN N, wSt (kg k) (ad 1) adF F, wSt (kg k) (ad 2) adP P, wHi (kg k) (ad 4) adQ Q, wRe (kg k) (ad 5) adE zx.2, wOr (kg k) (ad 6) adO O, wMo (kg k) hm adm zr.2] hcr (by simp only [cat, List.append_nil]) (by simp only [cat, List.append_nil]) cw_L_89 ok_X7_way rfl (by decide) rfl rfl [0, 1, 2, 3, 4, 5, 6, 7] [0, 1, 2, 3, 4, 5, 6, 7] rfl rfl rfl rfl rfl (Nat.le_of_ble_eq_true rfl) hcs hsl rfl dL_law_582 rfl rfl ?_
  refine x_icmp_eq (tgt := 748) (pc' := 588) C dL_law_585 (by decide) rfl (fun _ => ?_) (fun c => absurd heq c)
  exact next M N F P Q zx.2 O zr.2 hrel2

set_option maxRecDepth 100000 in
set_option maxHeartbeats 8000000 in
theorem law_op18 {k : KT} {post : Option Value → va_W → Prop} {cs sl : Nat} (C : Ck k RL cL_law (some .boolean) 12 600000 7302250 post) (B : Cw k) (hcs : cs ≤ 600000) (hsl : sl ≤ 7302250) {b N0 : Nat} {xs : Nat → Int32} (hX : va_X b N0 xs (ks k) (ks k).heap) (hb : b < (ks k).heap.size) (hbA : ¬ kA k b) {i : Nat} (hi4 : 4 * i + 4 ≤ N0) (hi2 : N0 ≤ 2048) (hi5 : i < 512) {h hm : Nat} {ad adN adF adP adQ adE adO adm : Nat → Nat} (M : CS) (N : CS) (F : CS) (P : CS) (Q : HS) (E : CS) (O : CS) (S : CS) (hrel : REL M N F P Q E O S i) (next : ∀ (M : CS) (N : CS) (F : CS) (P : CS) (Q : HS) (E : CS) (O : CS) (S : CS), REL M N F P Q E O S (i + 1) → X k cs sl (cat [wMa h ad M, wSt (kg k) (ad 0) adN N, wSt (kg k) (ad 1) adF F, wSt (kg k) (ad 2) adP P, wHi (kg k) (ad 4) adQ Q, wRe (kg k) (ad 5) adE E, wOr (kg k) (ad 6) adO O, wMo (kg k) hm adm S]) 748 [some (.ref b), some (.ref h), some (.ref hm), some (.int (nI (4 * i)))] []) : X k cs sl (cat [wMa h ad M, wSt (kg k) (ad 0) adN N, wSt (kg k) (ad 1) adF F, wSt (kg k) (ad 2) adP P, wHi (kg k) (ad 4) adQ Q, wRe (kg k) (ad 5) adE E, wOr (kg k) (ad 6) adO O, wMo (kg k) hm adm S]) 590 [some (.ref b), some (.ref h), some (.ref hm), some (.int (nI (4 * i)))] [] := by
  refine x_aload_n (pc' := 591) C dL_law_590 rfl rfl rfl ?_
  refine x_aload_n (pc' := 592) C dL_law_591 rfl rfl rfl ?_
  refine x_iload_n (pc' := 593) C dL_law_592 rfl rfl rfl ?_
  refine x_iconst (v := 1) (pc' := 594) C dL_law_593 rfl (by decide) ?_
  refine x_iadd (v := nI (4 * i + 1)) (pc' := 595) C dL_law_594 rfl (nI_add (4 * i) 1) ?_
  refine x_sld (j := 4 * i + 1) (pc' := 596) C hX hb hbA (by omega) (by omega) dL_law_595 rfl ?_
  refine x_aload_n (pc' := 597) C dL_law_596 rfl rfl rfl ?_
  refine x_iload_n (pc' := 598) C dL_law_597 rfl rfl rfl ?_
  refine x_iconst (v := 2) (pc' := 599) C dL_law_598 rfl (by decide) ?_
  refine x_iadd (v := nI (4 * i + 2)) (pc' := 600) C dL_law_599 rfl (nI_add (4 * i) 2) ?_
  refine x_sld (j := 4 * i + 2) (pc' := 601) C hX hb hbA (by omega) (by omega) dL_law_600 rfl ?_
  obtain ⟨hox, hor, heq, hrel2⟩ := sim_unlike M N F P Q E O S i (xs (4 * i + 1)) (xs (4 * i + 2)) hrel hi5
  obtain ⟨zx, ezx⟩ : ∃ z, z = (f_X6_unlike M N (xs (4 * i + 1)) (xs (4 * i + 2))) := ⟨_, rfl⟩
  obtain ⟨zr, ezr⟩ : ∃ z, z = (f_X7_unlike S (xs (4 * i + 1)) (xs (4 * i + 2))) := ⟨_, rfl⟩
  rw [← ezx, ← ezr] at heq
  have hcx := c_X6_unlike (kl k) (kg k) h ad M adN N (xs (4 * i + 1)) (xs (4 * i + 2))
  rw [← ezx] at hcx
  refine x_catRV (st := []) (st2 := [.int zx]) (pc' := 604) (wcs := [wMa h ad M, wSt (kg k) (ad 0) adN N]) C hcx rfl cw_L_90 ok_X6_unlike rfl (by decide) rfl rfl [0, 1] rfl rfl rfl (Nat.le_of_ble_eq_true rfl) hcs hsl rfl dL_law_601 rfl rfl ?_
  refine x_aload_n (pc' := 605) C dL_law_604 rfl rfl rfl ?_
  refine x_aload_n (pc' := 606) C dL_law_605 rfl rfl rfl ?_
  refine x_iload_n (pc' := 607) C dL_law_606 rfl rfl rfl ?_
  refine x_iconst (v := 1) (pc' := 608) C dL_law_607 rfl (by decide) ?_
  refine x_iadd (v := nI (4 * i + 1)) (pc' := 609) C dL_law_608 rfl (nI_add (4 * i) 1) ?_
  refine x_sld (j := 4 * i + 1) (pc' := 610) C hX hb hbA (by omega) (by omega) dL_law_609 rfl ?_
  refine x_aload_n (pc' := 611) C dL_law_610 rfl rfl rfl ?_
  refine x_iload_n (pc' := 612) C dL_law_611 rfl rfl rfl ?_
  refine x_iconst (v := 2) (pc' := 613) C dL_law_612 rfl (by decide) ?_
  refine x_iadd (v := nI (4 * i + 2)) (pc' := 614) C dL_law_613 rfl (nI_add (4 * i) 2) ?_
  refine x_sld (j := 4 * i + 2) (pc' := 615) C hX hb hbA (by omega) (by omega) dL_law_614 rfl ?_
  have hcr := c_X7_unlike (kl k) (kg k) hm adm S (xs (4 * i + 1)) (xs (4 * i + 2)) hor
  rw [← ezr] at hcr
  refine x_catRV (st := [.int zx]) (st2 := [.int zr, .int zx]) (pc' := 618) (wcs := [wMo (kg k) hm adm S]) C hcr (by simp only [cat, List.append_nil]) cw_L_93 ok_X7_unlike rfl (by decide) rfl rfl [7] rfl rfl rfl (Nat.le_of_ble_eq_true rfl) hcs hsl rfl dL_law_615 rfl rfl ?_
  refine x_icmp_eq (tgt := 748) (pc' := 621) C dL_law_618 (by decide) rfl (fun _ => ?_) (fun c => absurd heq c)
  exact next M N F P Q E O S hrel2

set_option maxRecDepth 100000 in
set_option maxHeartbeats 8000000 in
theorem law_op19 {k : KT} {post : Option Value → va_W → Prop} {cs sl : Nat} (C : Ck k RL cL_law (some .boolean) 12 600000 7302250 post) (B : Cw k) (hcs : cs ≤ 600000) (hsl : sl ≤ 7302250) {b N0 : Nat} {xs : Nat → Int32} (hX : va_X b N0 xs (ks k) (ks k).heap) (hb : b < (ks k).heap.size) (hbA : ¬ kA k b) {i : Nat} (hi4 : 4 * i + 4 ≤ N0) (hi2 : N0 ≤ 2048) (hi5 : i < 512) {h hm : Nat} {ad adN adF adP adQ adE adO adm : Nat → Nat} (M : CS) (N : CS) (F : CS) (P : CS) (Q : HS) (E : CS) (O : CS) (S : CS) (hrel : REL M N F P Q E O S i) (next : ∀ (M : CS) (N : CS) (F : CS) (P : CS) (Q : HS) (E : CS) (O : CS) (S : CS), REL M N F P Q E O S (i + 1) → X k cs sl (cat [wMa h ad M, wSt (kg k) (ad 0) adN N, wSt (kg k) (ad 1) adF F, wSt (kg k) (ad 2) adP P, wHi (kg k) (ad 4) adQ Q, wRe (kg k) (ad 5) adE E, wOr (kg k) (ad 6) adO O, wMo (kg k) hm adm S]) 748 [some (.ref b), some (.ref h), some (.ref hm), some (.int (nI (4 * i)))] []) : X k cs sl (cat [wMa h ad M, wSt (kg k) (ad 0) adN N, wSt (kg k) (ad 1) adF F, wSt (kg k) (ad 2) adP P, wHi (kg k) (ad 4) adQ Q, wRe (kg k) (ad 5) adE E, wOr (kg k) (ad 6) adO O, wMo (kg k) hm adm S]) 623 [some (.ref b), some (.ref h), some (.ref hm), some (.int (nI (4 * i)))] [] := by
  refine x_aload_n (pc' := 624) C dL_law_623 rfl rfl rfl ?_
  refine x_aload_n (pc' := 625) C dL_law_624 rfl rfl rfl ?_
  refine x_iload_n (pc' := 626) C dL_law_625 rfl rfl rfl ?_
  refine x_iconst (v := 1) (pc' := 627) C dL_law_626 rfl (by decide) ?_
  refine x_iadd (v := nI (4 * i + 1)) (pc' := 628) C dL_law_627 rfl (nI_add (4 * i) 1) ?_
  refine x_sld (j := 4 * i + 1) (pc' := 629) C hX hb hbA (by omega) (by omega) dL_law_628 rfl ?_
  refine x_aload_n (pc' := 630) C dL_law_629 rfl rfl rfl ?_
  refine x_iload_n (pc' := 631) C dL_law_630 rfl rfl rfl ?_
  refine x_iconst (v := 2) (pc' := 632) C dL_law_631 rfl (by decide) ?_
  refine x_iadd (v := nI (4 * i + 2)) (pc' := 633) C dL_law_632 rfl (nI_add (4 * i) 2) ?_
  refine x_sld (j := 4 * i + 2) (pc' := 634) C hX hb hbA (by omega) (by omega) dL_law_633 rfl ?_
  obtain ⟨hox, hor, heq, hrel2⟩ := sim_common M N F P Q E O S i (xs (4 * i + 1)) (xs (4 * i + 2)) hrel hi5
  obtain ⟨zx, ezx⟩ : ∃ z, z = (f_X6_common M N (xs (4 * i + 1)) (xs (4 * i + 2))) := ⟨_, rfl⟩
  obtain ⟨zr, ezr⟩ : ∃ z, z = (f_X7_common S (xs (4 * i + 1)) (xs (4 * i + 2))) := ⟨_, rfl⟩
  rw [← ezx, ← ezr] at heq
  have hcx := c_X6_common (kl k) (kg k) h ad M adN N (xs (4 * i + 1)) (xs (4 * i + 2))
  rw [← ezx] at hcx
  refine x_catRV (st := []) (st2 := [.int zx]) (pc' := 637) (wcs := [wMa h ad M, wSt (kg k) (ad 0) adN N]) C hcx rfl cw_L_94 ok_X6_common rfl (by decide) rfl rfl [0, 1] rfl rfl rfl (Nat.le_of_ble_eq_true rfl) hcs hsl rfl dL_law_634 rfl rfl ?_
  refine x_aload_n (pc' := 638) C dL_law_637 rfl rfl rfl ?_
  refine x_aload_n (pc' := 639) C dL_law_638 rfl rfl rfl ?_
  refine x_iload_n (pc' := 640) C dL_law_639 rfl rfl rfl ?_
  refine x_iconst (v := 1) (pc' := 641) C dL_law_640 rfl (by decide) ?_
  refine x_iadd (v := nI (4 * i + 1)) (pc' := 642) C dL_law_641 rfl (nI_add (4 * i) 1) ?_
  refine x_sld (j := 4 * i + 1) (pc' := 643) C hX hb hbA (by omega) (by omega) dL_law_642 rfl ?_
  refine x_aload_n (pc' := 644) C dL_law_643 rfl rfl rfl ?_
  refine x_iload_n (pc' := 645) C dL_law_644 rfl rfl rfl ?_
  refine x_iconst (v := 2) (pc' := 646) C dL_law_645 rfl (by decide) ?_
  refine x_iadd (v := nI (4 * i + 2)) (pc' := 647) C dL_law_646 rfl (nI_add (4 * i) 2) ?_
  refine x_sld (j := 4 * i + 2) (pc' := 648) C hX hb hbA (by omega) (by omega) dL_law_647 rfl ?_
  have hcr := c_X7_common (kl k) (kg k) hm adm S (xs (4 * i + 1)) (xs (4 * i + 2)) hor
  rw [← ezr] at hcr
  refine x_catRV (st := [.int zx]) (st2 := [.int zr, .int zx]) (pc' := 651) (wcs := [wMo (kg k) hm adm S]) C hcr (by simp only [cat, List.append_nil]) cw_L_97 ok_X7_common rfl (by decide) rfl rfl [7] rfl rfl rfl (Nat.le_of_ble_eq_true rfl) hcs hsl rfl dL_law_648 rfl rfl ?_
  refine x_icmp_eq (tgt := 748) (pc' := 654) C dL_law_651 (by decide) rfl (fun _ => ?_) (fun c => absurd heq c)
  exact next M N F P Q E O S hrel2

set_option maxRecDepth 100000 in
set_option maxHeartbeats 8000000 in
theorem law_op20 {k : KT} {post : Option Value → va_W → Prop} {cs sl : Nat} (C : Ck k RL cL_law (some .boolean) 12 600000 7302250 post) (B : Cw k) (hcs : cs ≤ 600000) (hsl : sl ≤ 7302250) {b N0 : Nat} {xs : Nat → Int32} (hX : va_X b N0 xs (ks k) (ks k).heap) (hb : b < (ks k).heap.size) (hbA : ¬ kA k b) {i : Nat} (hi4 : 4 * i + 4 ≤ N0) (hi2 : N0 ≤ 2048) (hi5 : i < 512) {h hm : Nat} {ad adN adF adP adQ adE adO adm : Nat → Nat} (M : CS) (N : CS) (F : CS) (P : CS) (Q : HS) (E : CS) (O : CS) (S : CS) (hrel : REL M N F P Q E O S i) (next : ∀ (M : CS) (N : CS) (F : CS) (P : CS) (Q : HS) (E : CS) (O : CS) (S : CS), REL M N F P Q E O S (i + 1) → X k cs sl (cat [wMa h ad M, wSt (kg k) (ad 0) adN N, wSt (kg k) (ad 1) adF F, wSt (kg k) (ad 2) adP P, wHi (kg k) (ad 4) adQ Q, wRe (kg k) (ad 5) adE E, wOr (kg k) (ad 6) adO O, wMo (kg k) hm adm S]) 748 [some (.ref b), some (.ref h), some (.ref hm), some (.int (nI (4 * i)))] []) : X k cs sl (cat [wMa h ad M, wSt (kg k) (ad 0) adN N, wSt (kg k) (ad 1) adF F, wSt (kg k) (ad 2) adP P, wHi (kg k) (ad 4) adQ Q, wRe (kg k) (ad 5) adE E, wOr (kg k) (ad 6) adO O, wMo (kg k) hm adm S]) 656 [some (.ref b), some (.ref h), some (.ref hm), some (.int (nI (4 * i)))] [] := by
  refine x_aload_n (pc' := 657) C dL_law_656 rfl rfl rfl ?_
  refine x_aload_n (pc' := 658) C dL_law_657 rfl rfl rfl ?_
  refine x_iload_n (pc' := 659) C dL_law_658 rfl rfl rfl ?_
  refine x_iconst (v := 1) (pc' := 660) C dL_law_659 rfl (by decide) ?_
  refine x_iadd (v := nI (4 * i + 1)) (pc' := 661) C dL_law_660 rfl (nI_add (4 * i) 1) ?_
  refine x_sld (j := 4 * i + 1) (pc' := 662) C hX hb hbA (by omega) (by omega) dL_law_661 rfl ?_
  obtain ⟨hox, hor, heq, hrel2⟩ := sim_ifRoot M N F P Q E O S i (xs (4 * i + 1)) hrel hi5
  obtain ⟨zx, ezx⟩ : ∃ z, z = (f_X6_ifRoot M N E (xs (4 * i + 1))) := ⟨_, rfl⟩
  obtain ⟨zr, ezr⟩ : ∃ z, z = (f_X7_ifRoot S (xs (4 * i + 1))) := ⟨_, rfl⟩
  rw [← ezx, ← ezr] at heq hrel2
  have hcx := c_X6_ifRoot (kl k) (kg k) h ad M adN N adE E (xs (4 * i + 1))
  rw [← ezx] at hcx
  refine x_catWV (st := []) (st2 := [.int zx.1]) (pc' := 665) (wcs := [wMa h ad M, wSt (kg k) (ad 0) adN N, wRe (kg k) (ad 5) adE E]) (wrs := [wSt (kg k) (ad 1) adF F, wSt (kg k) (ad 2) adP P, wHi (kg k) (ad 4) adQ Q, wOr (kg k) (ad 6) adO O, wMo (kg k) hm adm S]) (wcs' := [wMa h ad M, wSt (kg k) (ad 0) adN N, wRe (kg k) (ad 5) adE zx.2]) C B [wMa h ad M, wSt (kg k) (ad 0) adN N, wSt (kg k) (ad 1) adF F, wSt (kg k) (ad 2) adP P, wHi (kg k) (ad 4) adQ Q, wRe (kg k) (ad 5) adE zx.2, wOr (kg k) (ad 6) adO O, wMo (kg k) hm adm S] hcx rfl rfl cw_L_98 ok_X6_ifRoot rfl (by decide) rfl rfl [2, 3, 4, 6, 7, 0, 1, 5] [5, 6, 0, 1, 2, 7, 3, 4] rfl rfl rfl rfl rfl (Nat.le_of_ble_eq_true rfl) hcs hsl rfl dL_law_662 rfl rfl ?_
  refine x_aload_n (pc' := 666) C dL_law_665 rfl rfl rfl ?_
  refine x_aload_n (pc' := 667) C dL_law_666 rfl rfl rfl ?_
  refine x_iload_n (pc' := 668) C dL_law_667 rfl rfl rfl ?_
  refine x_iconst (v := 1) (pc' := 669) C dL_law_668 rfl (by decide) ?_
  refine x_iadd (v := nI (4 * i + 1)) (pc' := 670) C dL_law_669 rfl (nI_add (4 * i) 1) ?_
  refine x_sld (j := 4 * i + 1) (pc' := 671) C hX hb hbA (by omega) (by omega) dL_law_670 rfl ?_
  have hcr := c_X7_ifRoot (kl k) (kg k) hm adm S (xs (4 * i + 1)) hor
  rw [← ezr] at hcr
  refine x_catWV (st := [.int zx.1]) (st2 := [.int zr.1, .int zx.1]) (pc' := 674) (wcs := [wMo (kg k) hm adm S]) (wrs := [wMa h ad M, wSt (kg k) (ad 0) adN N, wSt (kg k) (ad 1) adF F, wSt (kg k) (ad 2) adP P, wHi (kg k) (ad 4) adQ Q, wRe (kg k) (ad 5) adE zx.2, wOr (kg k) (ad 6) adO O]) (wcs' := [wMo (kg k) hm adm zr.2]) C B [wMa h ad M, wSt (kg k) (ad 0) adN N, wSt (kg k) (ad 1) adF F, wSt (kg k) (ad 2) adP P, wHi (kg k) (ad 4) adQ Q, wRe (kg k) (ad 5) adE zx.2, wOr (kg k) (ad 6) adO O, wMo (kg k) hm adm zr.2] hcr (by simp only [cat, List.append_nil]) (by simp only [cat, List.append_nil]) cw_L_101 ok_X7_ifRoot rfl (by decide) rfl rfl [0, 1, 2, 3, 4, 5, 6, 7] [0, 1, 2, 3, 4, 5, 6, 7] rfl rfl rfl rfl rfl (Nat.le_of_ble_eq_true rfl) hcs hsl rfl dL_law_671 rfl rfl ?_
  refine x_icmp_eq (tgt := 748) (pc' := 677) C dL_law_674 (by decide) rfl (fun _ => ?_) (fun c => absurd heq c)
  exact next M N F P Q zx.2 O zr.2 hrel2

set_option maxRecDepth 100000 in
set_option maxHeartbeats 8000000 in
theorem law_op21 {k : KT} {post : Option Value → va_W → Prop} {cs sl : Nat} (C : Ck k RL cL_law (some .boolean) 12 600000 7302250 post) (B : Cw k) (hcs : cs ≤ 600000) (hsl : sl ≤ 7302250) {b N0 : Nat} {xs : Nat → Int32} (hX : va_X b N0 xs (ks k) (ks k).heap) (hb : b < (ks k).heap.size) (hbA : ¬ kA k b) {i : Nat} (hi4 : 4 * i + 4 ≤ N0) (hi2 : N0 ≤ 2048) (hi5 : i < 512) {h hm : Nat} {ad adN adF adP adQ adE adO adm : Nat → Nat} (M : CS) (N : CS) (F : CS) (P : CS) (Q : HS) (E : CS) (O : CS) (S : CS) (hrel : REL M N F P Q E O S i) (next : ∀ (M : CS) (N : CS) (F : CS) (P : CS) (Q : HS) (E : CS) (O : CS) (S : CS), REL M N F P Q E O S (i + 1) → X k cs sl (cat [wMa h ad M, wSt (kg k) (ad 0) adN N, wSt (kg k) (ad 1) adF F, wSt (kg k) (ad 2) adP P, wHi (kg k) (ad 4) adQ Q, wRe (kg k) (ad 5) adE E, wOr (kg k) (ad 6) adO O, wMo (kg k) hm adm S]) 748 [some (.ref b), some (.ref h), some (.ref hm), some (.int (nI (4 * i)))] []) : X k cs sl (cat [wMa h ad M, wSt (kg k) (ad 0) adN N, wSt (kg k) (ad 1) adF F, wSt (kg k) (ad 2) adP P, wHi (kg k) (ad 4) adQ Q, wRe (kg k) (ad 5) adE E, wOr (kg k) (ad 6) adO O, wMo (kg k) hm adm S]) 679 [some (.ref b), some (.ref h), some (.ref hm), some (.int (nI (4 * i)))] [] := by
  refine x_aload_n (pc' := 680) C dL_law_679 rfl rfl rfl ?_
  refine x_aload_n (pc' := 681) C dL_law_680 rfl rfl rfl ?_
  refine x_iload_n (pc' := 682) C dL_law_681 rfl rfl rfl ?_
  refine x_iconst (v := 1) (pc' := 683) C dL_law_682 rfl (by decide) ?_
  refine x_iadd (v := nI (4 * i + 1)) (pc' := 684) C dL_law_683 rfl (nI_add (4 * i) 1) ?_
  refine x_sld (j := 4 * i + 1) (pc' := 685) C hX hb hbA (by omega) (by omega) dL_law_684 rfl ?_
  obtain ⟨hox, hor, heq, hrel2⟩ := sim_bestRoot M N F P Q E O S i (xs (4 * i + 1)) hrel hi5
  obtain ⟨zx, ezx⟩ : ∃ z, z = (f_X6_bestRoot M N E (xs (4 * i + 1))) := ⟨_, rfl⟩
  obtain ⟨zr, ezr⟩ : ∃ z, z = (f_X7_bestRoot S (xs (4 * i + 1))) := ⟨_, rfl⟩
  rw [← ezx, ← ezr] at heq hrel2
  have hcx := c_X6_bestRoot (kl k) (kg k) h ad M adN N adE E (xs (4 * i + 1))
  rw [← ezx] at hcx
  refine x_catWV (st := []) (st2 := [.int zx.1]) (pc' := 688) (wcs := [wMa h ad M, wSt (kg k) (ad 0) adN N, wRe (kg k) (ad 5) adE E]) (wrs := [wSt (kg k) (ad 1) adF F, wSt (kg k) (ad 2) adP P, wHi (kg k) (ad 4) adQ Q, wOr (kg k) (ad 6) adO O, wMo (kg k) hm adm S]) (wcs' := [wMa h ad M, wSt (kg k) (ad 0) adN N, wRe (kg k) (ad 5) adE zx.2]) C B [wMa h ad M, wSt (kg k) (ad 0) adN N, wSt (kg k) (ad 1) adF F, wSt (kg k) (ad 2) adP P, wHi (kg k) (ad 4) adQ Q, wRe (kg k) (ad 5) adE zx.2, wOr (kg k) (ad 6) adO O, wMo (kg k) hm adm S] hcx rfl rfl cw_L_102 ok_X6_bestRoot rfl (by decide) rfl rfl [2, 3, 4, 6, 7, 0, 1, 5] [5, 6, 0, 1, 2, 7, 3, 4] rfl rfl rfl rfl rfl (Nat.le_of_ble_eq_true rfl) hcs hsl rfl dL_law_685 rfl rfl ?_
  refine x_aload_n (pc' := 689) C dL_law_688 rfl rfl rfl ?_
  refine x_aload_n (pc' := 690) C dL_law_689 rfl rfl rfl ?_
  refine x_iload_n (pc' := 691) C dL_law_690 rfl rfl rfl ?_
  refine x_iconst (v := 1) (pc' := 692) C dL_law_691 rfl (by decide) ?_
  refine x_iadd (v := nI (4 * i + 1)) (pc' := 693) C dL_law_692 rfl (nI_add (4 * i) 1) ?_
  refine x_sld (j := 4 * i + 1) (pc' := 694) C hX hb hbA (by omega) (by omega) dL_law_693 rfl ?_
  have hcr := c_X7_bestRoot (kl k) (kg k) hm adm S (xs (4 * i + 1)) hor
  rw [← ezr] at hcr
  refine x_catWV (st := [.int zx.1]) (st2 := [.int zr.1, .int zx.1]) (pc' := 697) (wcs := [wMo (kg k) hm adm S]) (wrs := [wMa h ad M, wSt (kg k) (ad 0) adN N, wSt (kg k) (ad 1) adF F, wSt (kg k) (ad 2) adP P, wHi (kg k) (ad 4) adQ Q, wRe (kg k) (ad 5) adE zx.2, wOr (kg k) (ad 6) adO O]) (wcs' := [wMo (kg k) hm adm zr.2]) C B [wMa h ad M, wSt (kg k) (ad 0) adN N, wSt (kg k) (ad 1) adF F, wSt (kg k) (ad 2) adP P, wHi (kg k) (ad 4) adQ Q, wRe (kg k) (ad 5) adE zx.2, wOr (kg k) (ad 6) adO O, wMo (kg k) hm adm zr.2] hcr (by simp only [cat, List.append_nil]) (by simp only [cat, List.append_nil]) cw_L_105 ok_X7_bestRoot rfl (by decide) rfl rfl [0, 1, 2, 3, 4, 5, 6, 7] [0, 1, 2, 3, 4, 5, 6, 7] rfl rfl rfl rfl rfl (Nat.le_of_ble_eq_true rfl) hcs hsl rfl dL_law_694 rfl rfl ?_
  refine x_icmp_eq (tgt := 748) (pc' := 700) C dL_law_697 (by decide) rfl (fun _ => ?_) (fun c => absurd heq c)
  exact next M N F P Q zx.2 O zr.2 hrel2

set_option maxRecDepth 100000 in
set_option maxHeartbeats 8000000 in
theorem law_op22 {k : KT} {post : Option Value → va_W → Prop} {cs sl : Nat} (C : Ck k RL cL_law (some .boolean) 12 600000 7302250 post) (B : Cw k) (hcs : cs ≤ 600000) (hsl : sl ≤ 7302250) {b N0 : Nat} {xs : Nat → Int32} (hX : va_X b N0 xs (ks k) (ks k).heap) (hb : b < (ks k).heap.size) (hbA : ¬ kA k b) {i : Nat} (hi4 : 4 * i + 4 ≤ N0) (hi2 : N0 ≤ 2048) (hi5 : i < 512) {h hm : Nat} {ad adN adF adP adQ adE adO adm : Nat → Nat} (M : CS) (N : CS) (F : CS) (P : CS) (Q : HS) (E : CS) (O : CS) (S : CS) (hrel : REL M N F P Q E O S i) (next : ∀ (M : CS) (N : CS) (F : CS) (P : CS) (Q : HS) (E : CS) (O : CS) (S : CS), REL M N F P Q E O S (i + 1) → X k cs sl (cat [wMa h ad M, wSt (kg k) (ad 0) adN N, wSt (kg k) (ad 1) adF F, wSt (kg k) (ad 2) adP P, wHi (kg k) (ad 4) adQ Q, wRe (kg k) (ad 5) adE E, wOr (kg k) (ad 6) adO O, wMo (kg k) hm adm S]) 748 [some (.ref b), some (.ref h), some (.ref hm), some (.int (nI (4 * i)))] []) : X k cs sl (cat [wMa h ad M, wSt (kg k) (ad 0) adN N, wSt (kg k) (ad 1) adF F, wSt (kg k) (ad 2) adP P, wHi (kg k) (ad 4) adQ Q, wRe (kg k) (ad 5) adE E, wOr (kg k) (ad 6) adO O, wMo (kg k) hm adm S]) 702 [some (.ref b), some (.ref h), some (.ref hm), some (.int (nI (4 * i)))] [] := by
  refine x_aload_n (pc' := 703) C dL_law_702 rfl rfl rfl ?_
  refine x_aload_n (pc' := 704) C dL_law_703 rfl rfl rfl ?_
  refine x_iload_n (pc' := 705) C dL_law_704 rfl rfl rfl ?_
  refine x_iconst (v := 1) (pc' := 706) C dL_law_705 rfl (by decide) ?_
  refine x_iadd (v := nI (4 * i + 1)) (pc' := 707) C dL_law_706 rfl (nI_add (4 * i) 1) ?_
  refine x_sld (j := 4 * i + 1) (pc' := 708) C hX hb hbA (by omega) (by omega) dL_law_707 rfl ?_
  obtain ⟨hox, hor, heq, hrel2⟩ := sim_ifCut M N F P Q E O S i (xs (4 * i + 1)) hrel hi5
  obtain ⟨zx, ezx⟩ : ∃ z, z = (f_X6_ifCut M N (xs (4 * i + 1))) := ⟨_, rfl⟩
  obtain ⟨zr, ezr⟩ : ∃ z, z = (f_X7_ifCut S (xs (4 * i + 1))) := ⟨_, rfl⟩
  rw [← ezx, ← ezr] at heq
  have hcx := c_X6_ifCut (kl k) (kg k) h ad M adN N (xs (4 * i + 1))
  rw [← ezx] at hcx
  refine x_catRV (st := []) (st2 := [.int zx]) (pc' := 711) (wcs := [wMa h ad M, wSt (kg k) (ad 0) adN N]) C hcx rfl cw_L_106 ok_X6_ifCut rfl (by decide) rfl rfl [0, 1] rfl rfl rfl (Nat.le_of_ble_eq_true rfl) hcs hsl rfl dL_law_708 rfl rfl ?_
  refine x_aload_n (pc' := 712) C dL_law_711 rfl rfl rfl ?_
  refine x_aload_n (pc' := 713) C dL_law_712 rfl rfl rfl ?_
  refine x_iload_n (pc' := 714) C dL_law_713 rfl rfl rfl ?_
  refine x_iconst (v := 1) (pc' := 715) C dL_law_714 rfl (by decide) ?_
  refine x_iadd (v := nI (4 * i + 1)) (pc' := 716) C dL_law_715 rfl (nI_add (4 * i) 1) ?_
  refine x_sld (j := 4 * i + 1) (pc' := 717) C hX hb hbA (by omega) (by omega) dL_law_716 rfl ?_
  have hcr := c_X7_ifCut (kl k) (kg k) hm adm S (xs (4 * i + 1)) hor
  rw [← ezr] at hcr
  refine x_catRV (st := [.int zx]) (st2 := [.int zr, .int zx]) (pc' := 720) (wcs := [wMo (kg k) hm adm S]) C hcr (by simp only [cat, List.append_nil]) cw_L_109 ok_X7_ifCut rfl (by decide) rfl rfl [7] rfl rfl rfl (Nat.le_of_ble_eq_true rfl) hcs hsl rfl dL_law_717 rfl rfl ?_
  refine x_icmp_eq (tgt := 748) (pc' := 723) C dL_law_720 (by decide) rfl (fun _ => ?_) (fun c => absurd heq c)
  exact next M N F P Q E O S hrel2

set_option maxRecDepth 100000 in
set_option maxHeartbeats 8000000 in
theorem law_op23 {k : KT} {post : Option Value → va_W → Prop} {cs sl : Nat} (C : Ck k RL cL_law (some .boolean) 12 600000 7302250 post) (B : Cw k) (hcs : cs ≤ 600000) (hsl : sl ≤ 7302250) {b N0 : Nat} {xs : Nat → Int32} (hX : va_X b N0 xs (ks k) (ks k).heap) (hb : b < (ks k).heap.size) (hbA : ¬ kA k b) {i : Nat} (hi4 : 4 * i + 4 ≤ N0) (hi2 : N0 ≤ 2048) (hi5 : i < 512) {h hm : Nat} {ad adN adF adP adQ adE adO adm : Nat → Nat} (M : CS) (N : CS) (F : CS) (P : CS) (Q : HS) (E : CS) (O : CS) (S : CS) (hrel : REL M N F P Q E O S i) (next : ∀ (M : CS) (N : CS) (F : CS) (P : CS) (Q : HS) (E : CS) (O : CS) (S : CS), REL M N F P Q E O S (i + 1) → X k cs sl (cat [wMa h ad M, wSt (kg k) (ad 0) adN N, wSt (kg k) (ad 1) adF F, wSt (kg k) (ad 2) adP P, wHi (kg k) (ad 4) adQ Q, wRe (kg k) (ad 5) adE E, wOr (kg k) (ad 6) adO O, wMo (kg k) hm adm S]) 748 [some (.ref b), some (.ref h), some (.ref hm), some (.int (nI (4 * i)))] []) : X k cs sl (cat [wMa h ad M, wSt (kg k) (ad 0) adN N, wSt (kg k) (ad 1) adF F, wSt (kg k) (ad 2) adP P, wHi (kg k) (ad 4) adQ Q, wRe (kg k) (ad 5) adE E, wOr (kg k) (ad 6) adO O, wMo (kg k) hm adm S]) 725 [some (.ref b), some (.ref h), some (.ref hm), some (.int (nI (4 * i)))] [] := by
  refine x_aload_n (pc' := 726) C dL_law_725 rfl rfl rfl ?_
  refine x_aload_n (pc' := 727) C dL_law_726 rfl rfl rfl ?_
  refine x_iload_n (pc' := 728) C dL_law_727 rfl rfl rfl ?_
  refine x_iconst (v := 1) (pc' := 729) C dL_law_728 rfl (by decide) ?_
  refine x_iadd (v := nI (4 * i + 1)) (pc' := 730) C dL_law_729 rfl (nI_add (4 * i) 1) ?_
  refine x_sld (j := 4 * i + 1) (pc' := 731) C hX hb hbA (by omega) (by omega) dL_law_730 rfl ?_
  obtain ⟨hox, hor, heq, hrel2⟩ := sim_count M N F P Q E O S i (xs (4 * i + 1)) hrel hi5
  obtain ⟨zx, ezx⟩ : ∃ z, z = (f_X6_count M N Q E O (xs (4 * i + 1))) := ⟨_, rfl⟩
  obtain ⟨zr, ezr⟩ : ∃ z, z = (f_X7_count S (xs (4 * i + 1))) := ⟨_, rfl⟩
  rw [← ezx, ← ezr] at heq hrel2
  have hcx := c_X6_count (kl k) (kg k) h ad M adN N adQ Q adE E adO O (xs (4 * i + 1))
  rw [← ezx] at hcx
  refine x_catWV (st := []) (st2 := [.int zx.1]) (pc' := 734) (wcs := [wMa h ad M, wSt (kg k) (ad 0) adN N, wHi (kg k) (ad 4) adQ Q, wRe (kg k) (ad 5) adE E, wOr (kg k) (ad 6) adO O]) (wrs := [wSt (kg k) (ad 1) adF F, wSt (kg k) (ad 2) adP P, wMo (kg k) hm adm S]) (wcs' := [wMa h ad M, wSt (kg k) (ad 0) adN N, wHi (kg k) (ad 4) adQ Q, wRe (kg k) (ad 5) adE zx.2, wOr (kg k) (ad 6) adO O]) C B [wMa h ad M, wSt (kg k) (ad 0) adN N, wSt (kg k) (ad 1) adF F, wSt (kg k) (ad 2) adP P, wHi (kg k) (ad 4) adQ Q, wRe (kg k) (ad 5) adE zx.2, wOr (kg k) (ad 6) adO O, wMo (kg k) hm adm S] hcx rfl rfl cw_L_110 ok_X6_count rfl (by decide) rfl rfl [2, 3, 7, 0, 1, 4, 5, 6] [3, 4, 0, 1, 5, 6, 7, 2] rfl rfl rfl rfl rfl (Nat.le_of_ble_eq_true rfl) hcs hsl rfl dL_law_731 rfl rfl ?_
  refine x_aload_n (pc' := 735) C dL_law_734 rfl rfl rfl ?_
  refine x_aload_n (pc' := 736) C dL_law_735 rfl rfl rfl ?_
  refine x_iload_n (pc' := 737) C dL_law_736 rfl rfl rfl ?_
  refine x_iconst (v := 1) (pc' := 738) C dL_law_737 rfl (by decide) ?_
  refine x_iadd (v := nI (4 * i + 1)) (pc' := 739) C dL_law_738 rfl (nI_add (4 * i) 1) ?_
  refine x_sld (j := 4 * i + 1) (pc' := 740) C hX hb hbA (by omega) (by omega) dL_law_739 rfl ?_
  have hcr := c_X7_count (kl k) (kg k) hm adm S (xs (4 * i + 1)) hor
  rw [← ezr] at hcr
  refine x_catWV (st := [.int zx.1]) (st2 := [.int zr.1, .int zx.1]) (pc' := 743) (wcs := [wMo (kg k) hm adm S]) (wrs := [wMa h ad M, wSt (kg k) (ad 0) adN N, wSt (kg k) (ad 1) adF F, wSt (kg k) (ad 2) adP P, wHi (kg k) (ad 4) adQ Q, wRe (kg k) (ad 5) adE zx.2, wOr (kg k) (ad 6) adO O]) (wcs' := [wMo (kg k) hm adm zr.2]) C B [wMa h ad M, wSt (kg k) (ad 0) adN N, wSt (kg k) (ad 1) adF F, wSt (kg k) (ad 2) adP P, wHi (kg k) (ad 4) adQ Q, wRe (kg k) (ad 5) adE zx.2, wOr (kg k) (ad 6) adO O, wMo (kg k) hm adm zr.2] hcr (by simp only [cat, List.append_nil]) (by simp only [cat, List.append_nil]) cw_L_113 ok_X7_count rfl (by decide) rfl rfl [0, 1, 2, 3, 4, 5, 6, 7] [0, 1, 2, 3, 4, 5, 6, 7] rfl rfl rfl rfl rfl (Nat.le_of_ble_eq_true rfl) hcs hsl rfl dL_law_740 rfl rfl ?_
  refine x_icmp_eq (tgt := 748) (pc' := 746) C dL_law_743 (by decide) rfl (fun _ => ?_) (fun c => absurd heq c)
  exact next M N F P Q zx.2 O zr.2 hrel2

set_option maxRecDepth 100000 in
set_option maxHeartbeats 8000000 in
theorem law_loop {k : KT} {cs sl : Nat} (C : Ck k RL cL_law (some .boolean) 12 600000 7302250 (fun v _ => v = some (.int 1))) (B : Cw k) (hcs : cs ≤ 600000) (hsl : sl ≤ 7302250) {b N0 : Nat} {xs : Nat → Int32} (hX : va_X b N0 xs (ks k) (ks k).heap) (hb : b < (ks k).heap.size) (hbA : ¬ kA k b) (hi2 : N0 ≤ 2048) {h hm : Nat} {ad adN adF adP adQ adE adO adm : Nat → Nat} : ∀ (n i : Nat), i ≤ 512 → 512 < i + n → ∀ (M : CS) (N : CS) (F : CS) (P : CS) (Q : HS) (E : CS) (O : CS) (S : CS), REL M N F P Q E O S i → X k cs sl (cat [wMa h ad M, wSt (kg k) (ad 0) adN N, wSt (kg k) (ad 1) adF F, wSt (kg k) (ad 2) adP P, wHi (kg k) (ad 4) adQ Q, wRe (kg k) (ad 5) adE E, wOr (kg k) (ad 6) adO O, wMo (kg k) hm adm S]) 18 [some (.ref b), some (.ref h), some (.ref hm), some (.int (nI (4 * i)))] [] := by
  intro n
  induction n with
  | zero => intro i h1 h2; omega
  | succ n ih =>
    intro i hi1 hf M N F P Q E O S hrel
    refine x_iload_n (pc' := 19) C dL_law_18 rfl rfl rfl ?_
    refine x_aload_n (pc' := 20) C dL_law_19 rfl rfl rfl ?_
    refine x_slen (pc' := 21) C hX hb hbA dL_law_20 rfl ?_
    refine x_iconst (v := nI 4) (pc' := 22) C dL_law_21 rfl (by decide) ?_
    refine x_isub (v := nI N0 - nI 4) (pc' := 23) C dL_law_22 rfl rfl ?_
    refine x_icmp_gt (tgt := 754) (pc' := 26) C dL_law_23 (by decide) rfl (fun _ => ?_) (fun c => ?_)
    · refine x_iconst (v := 1) (pc' := 755) C dL_law_754 rfl (by decide) ?_
      exact x_zret (b := true) C hcs hsl dL_law_755 rfl
    · have hi4 : 4 * i + 4 ≤ N0 := by
        rw [Int32.lt_iff_toInt_lt, pk_sub_toInt (by omega) (by decide), nI_toInt (by omega)] at c
        omega
      have hi5 : i < 512 := by omega
      have next : ∀ (M : CS) (N : CS) (F : CS) (P : CS) (Q : HS) (E : CS) (O : CS) (S : CS), REL M N F P Q E O S (i + 1) → X k cs sl (cat [wMa h ad M, wSt (kg k) (ad 0) adN N, wSt (kg k) (ad 1) adF F, wSt (kg k) (ad 2) adP P, wHi (kg k) (ad 4) adQ Q, wRe (kg k) (ad 5) adE E, wOr (kg k) (ad 6) adO O, wMo (kg k) hm adm S]) 748 [some (.ref b), some (.ref h), some (.ref hm), some (.int (nI (4 * i)))] [] := by
        intro M N F P Q E O S hrel
        refine x_iinc (pc' := 751) (v := nI (4 * (i + 1))) (L' := [some (.ref b), some (.ref h), some (.ref hm), some (.int (nI (4 * (i + 1))))]) C dL_law_748 rfl rfl (nI_add (4 * i) 4) (Nat.le_of_ble_eq_true rfl) rfl ?_
        refine x_goto (tgt := 18) C dL_law_751 (by decide) ?_
        exact ih (i + 1) (by omega) (by omega) M N F P Q E O S hrel
      refine x_aload_n (pc' := 27) C dL_law_26 rfl rfl rfl ?_
      refine x_iload_n (pc' := 28) C dL_law_27 rfl rfl rfl ?_
      refine x_sld (j := 4 * i) (pc' := 29) C hX hb hbA (by omega) (by omega) dL_law_28 rfl ?_
      refine x_bipush (v := 31) (pc' := 31) C dL_law_29 rfl (by decide) ?_
      refine x_iand (v := xs (4 * i) &&& 31) (pc' := 32) C dL_law_31 rfl rfl ?_
      generalize xs (4 * i) &&& 31 = v
      by_cases c0 : v = 0
      · refine x_tabIn (off := 112) (tgt := 144) C (0) dL_law_32 (by rw [c0]; decide) (by decide) (by decide) rfl (by decide) ?_
        exact law_op0 C B hcs hsl hX hb hbA hi4 hi2 hi5 M N F P Q E O S hrel next
      by_cases c1 : v = 1
      · refine x_tabIn (off := 155) (tgt := 187) C (1) dL_law_32 (by rw [c1]; decide) (by decide) (by decide) rfl (by decide) ?_
        exact law_op1 C B hcs hsl hX hb hbA hi4 hi2 hi5 M N F P Q E O S hrel next
      by_cases c2 : v = 2
      · refine x_tabIn (off := 198) (tgt := 230) C (2) dL_law_32 (by rw [c2]; decide) (by decide) (by decide) rfl (by decide) ?_
        exact law_op2 C B hcs hsl hX hb hbA hi4 hi2 hi5 M N F P Q E O S hrel next
      by_cases c3 : v = 3
      · refine x_tabIn (off := 221) (tgt := 253) C (3) dL_law_32 (by rw [c3]; decide) (by decide) (by decide) rfl (by decide) ?_
        exact law_op3 C B hcs hsl hX hb hbA hi4 hi2 hi5 M N F P Q E O S hrel next
      by_cases c4 : v = 4
      · refine x_tabIn (off := 244) (tgt := 276) C (4) dL_law_32 (by rw [c4]; decide) (by decide) (by decide) rfl (by decide) ?_
        exact law_op4 C B hcs hsl hX hb hbA hi4 hi2 hi5 M N F P Q E O S hrel next
      by_cases c5 : v = 5
      · refine x_tabIn (off := 267) (tgt := 299) C (5) dL_law_32 (by rw [c5]; decide) (by decide) (by decide) rfl (by decide) ?_
        exact law_op5 C B hcs hsl hX hb hbA hi4 hi2 hi5 M N F P Q E O S hrel next
      by_cases c6 : v = 6
      · refine x_tabIn (off := 290) (tgt := 322) C (6) dL_law_32 (by rw [c6]; decide) (by decide) (by decide) rfl (by decide) ?_
        exact law_op6 C B hcs hsl hX hb hbA hi4 hi2 hi5 M N F P Q E O S hrel next
      by_cases c7 : v = 7
      · refine x_tabIn (off := 313) (tgt := 345) C (7) dL_law_32 (by rw [c7]; decide) (by decide) (by decide) rfl (by decide) ?_
        exact law_op7 C B hcs hsl hX hb hbA hi4 hi2 hi5 M N F P Q E O S hrel next
      by_cases c8 : v = 8
      · refine x_tabIn (off := 346) (tgt := 378) C (8) dL_law_32 (by rw [c8]; decide) (by decide) (by decide) rfl (by decide) ?_
        exact law_op8 C B hcs hsl hX hb hbA hi4 hi2 hi5 M N F P Q E O S hrel next
      by_cases c9 : v = 9
      · refine x_tabIn (off := 371) (tgt := 403) C (9) dL_law_32 (by rw [c9]; decide) (by decide) (by decide) rfl (by decide) ?_
        exact law_op9 C B hcs hsl hX hb hbA hi4 hi2 hi5 M N F P Q E O S hrel next
      by_cases c10 : v = 10
      · refine x_tabIn (off := 384) (tgt := 416) C (10) dL_law_32 (by rw [c10]; decide) (by decide) (by decide) rfl (by decide) ?_
        exact law_op10 C B hcs hsl hX hb hbA hi4 hi2 hi5 M N F P Q E O S hrel next
      by_cases c11 : v = 11
      · refine x_tabIn (off := 397) (tgt := 429) C (11) dL_law_32 (by rw [c11]; decide) (by decide) (by decide) rfl (by decide) ?_
        exact law_op11 C B hcs hsl hX hb hbA hi4 hi2 hi5 M N F P Q E O S hrel next
      by_cases c12 : v = 12
      · refine x_tabIn (off := 420) (tgt := 452) C (12) dL_law_32 (by rw [c12]; decide) (by decide) (by decide) rfl (by decide) ?_
        exact law_op12 C B hcs hsl hX hb hbA hi4 hi2 hi5 M N F P Q E O S hrel next
      by_cases c13 : v = 13
      · refine x_tabIn (off := 433) (tgt := 465) C (13) dL_law_32 (by rw [c13]; decide) (by decide) (by decide) rfl (by decide) ?_
        exact law_op13 C B hcs hsl hX hb hbA hi4 hi2 hi5 M N F P Q E O S hrel next
      by_cases c14 : v = 14
      · refine x_tabIn (off := 446) (tgt := 478) C (14) dL_law_32 (by rw [c14]; decide) (by decide) (by decide) rfl (by decide) ?_
        exact law_op14 C B hcs hsl hX hb hbA hi4 hi2 hi5 M N F P Q E O S hrel next
      by_cases c15 : v = 15
      · refine x_tabIn (off := 459) (tgt := 491) C (15) dL_law_32 (by rw [c15]; decide) (by decide) (by decide) rfl (by decide) ?_
        exact law_op15 C B hcs hsl hX hb hbA hi4 hi2 hi5 M N F P Q E O S hrel next
      by_cases c16 : v = 16
      · refine x_tabIn (off := 492) (tgt := 524) C (16) dL_law_32 (by rw [c16]; decide) (by decide) (by decide) rfl (by decide) ?_
        exact law_op16 C B hcs hsl hX hb hbA hi4 hi2 hi5 M N F P Q E O S hrel next
      by_cases c17 : v = 17
      · refine x_tabIn (off := 525) (tgt := 557) C (17) dL_law_32 (by rw [c17]; decide) (by decide) (by decide) rfl (by decide) ?_
        exact law_op17 C B hcs hsl hX hb hbA hi4 hi2 hi5 M N F P Q E O S hrel next
      by_cases c18 : v = 18
      · refine x_tabIn (off := 558) (tgt := 590) C (18) dL_law_32 (by rw [c18]; decide) (by decide) (by decide) rfl (by decide) ?_
        exact law_op18 C B hcs hsl hX hb hbA hi4 hi2 hi5 M N F P Q E O S hrel next
      by_cases c19 : v = 19
      · refine x_tabIn (off := 591) (tgt := 623) C (19) dL_law_32 (by rw [c19]; decide) (by decide) (by decide) rfl (by decide) ?_
        exact law_op19 C B hcs hsl hX hb hbA hi4 hi2 hi5 M N F P Q E O S hrel next
      by_cases c20 : v = 20
      · refine x_tabIn (off := 624) (tgt := 656) C (20) dL_law_32 (by rw [c20]; decide) (by decide) (by decide) rfl (by decide) ?_
        exact law_op20 C B hcs hsl hX hb hbA hi4 hi2 hi5 M N F P Q E O S hrel next
      by_cases c21 : v = 21
      · refine x_tabIn (off := 647) (tgt := 679) C (21) dL_law_32 (by rw [c21]; decide) (by decide) (by decide) rfl (by decide) ?_
        exact law_op21 C B hcs hsl hX hb hbA hi4 hi2 hi5 M N F P Q E O S hrel next
      by_cases c22 : v = 22
      · refine x_tabIn (off := 670) (tgt := 702) C (22) dL_law_32 (by rw [c22]; decide) (by decide) (by decide) rfl (by decide) ?_
        exact law_op22 C B hcs hsl hX hb hbA hi4 hi2 hi5 M N F P Q E O S hrel next
      by_cases c23 : v = 23
      · refine x_tabIn (off := 693) (tgt := 725) C (23) dL_law_32 (by rw [c23]; decide) (by decide) (by decide) rfl (by decide) ?_
        exact law_op23 C B hcs hsl hX hb hbA hi4 hi2 hi5 M N F P Q E O S hrel next
      refine x_tabOut (tgt := 748) C dL_law_32 (by have h0 := lv_neT (a := 0) c0 (by decide); have h1 := lv_neT (a := 1) c1 (by decide); have h2 := lv_neT (a := 2) c2 (by decide); have h3 := lv_neT (a := 3) c3 (by decide); have h4 := lv_neT (a := 4) c4 (by decide); have h5 := lv_neT (a := 5) c5 (by decide); have h6 := lv_neT (a := 6) c6 (by decide); have h7 := lv_neT (a := 7) c7 (by decide); have h8 := lv_neT (a := 8) c8 (by decide); have h9 := lv_neT (a := 9) c9 (by decide); have h10 := lv_neT (a := 10) c10 (by decide); have h11 := lv_neT (a := 11) c11 (by decide); have h12 := lv_neT (a := 12) c12 (by decide); have h13 := lv_neT (a := 13) c13 (by decide); have h14 := lv_neT (a := 14) c14 (by decide); have h15 := lv_neT (a := 15) c15 (by decide); have h16 := lv_neT (a := 16) c16 (by decide); have h17 := lv_neT (a := 17) c17 (by decide); have h18 := lv_neT (a := 18) c18 (by decide); have h19 := lv_neT (a := 19) c19 (by decide); have h20 := lv_neT (a := 20) c20 (by decide); have h21 := lv_neT (a := 21) c21 (by decide); have h22 := lv_neT (a := 22) c22 (by decide); have h23 := lv_neT (a := 23) c23 (by decide); omega) (by decide) ?_
      exact next M N F P Q E O S (rel_mono hrel)
