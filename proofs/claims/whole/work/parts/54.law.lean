def M_LawN (nm : String) : zm_M := (⟨R_Law, nm, "([I)Z"⟩, (b_Law_law, 4), some .boolean)
abbrev zl (nm : String) (N : Nat) (xs : Nat → Int32) (Q : zm_Q) (pc : Nat) (i : Nat) (st : List Value) (S : zm_S) : Prop := zm_WP (M_LawN nm) (some (N, xs)) 8 50 7009 Q pc [some (.ref 1000000), some (.ref 0), some (.ref 27), some (.int (nI i))] st GG S 50 7009
theorem lx {i N : Nat} (j : Nat) {c : Int32} (hc : nI j = c) (hj : j < 5) (hi : i + 5 ≤ N) (hN : N ≤ 2560) : zm_ix (nI i + c) (i + j) N := by
  rw [← hc, nI_add]; exact zm_ixN (by omega) (by omega)
theorem and31 (x : Int32) : ∃ k, k < 32 ∧ (x &&& 31) = nI k := by
  have h : (x &&& 31).toBitVec.toNat ≤ 31 := by
    rw [Int32.toBitVec_and, BitVec.toNat_and]
    exact Nat.and_le_right
  refine ⟨(x &&& 31).toBitVec.toNat, by omega, ?_⟩
  apply i32ext
  rw [pk_tn (by omega)]
theorem lw_c0 {nm : String} {N : Nat} {xs : Nat → Int32} {Q : zm_Q} {i num : Nat} {S : zm_S} (hi : i + 5 ≤ N) (hN : N ≤ 2560) (hnum : num ≤ i) (hR : RR num S) (hk : ∀ S' num', num' ≤ num + 1 → RR num' S' → zl nm N xs Q 618 i [] S') : zl nm N xs Q 120 i [] S := by
  refine zr_aload_n (i := 1) (x := 0) (n := 121) d_Law_law_120 rfl rfl rfl ?_
  refine zr_aload_n (i := 0) (x := 1000000) (n := 122) d_Law_law_121 rfl rfl rfl ?_
  refine zr_iload_n (i := 3) (x := nI i) (n := 123) d_Law_law_122 rfl rfl rfl ?_
  refine zr_iconst (v := 1) (n := 124) d_Law_law_123 rfl (by decide) ?_
  refine zr_iadd (n := 125) d_Law_law_124 rfl ?_
  refine zr_sload (i + 1) (n := 126) d_Law_law_125 rfl (lx 1 (by decide) (by omega) hi hN) ?_
  refine zr_aload_n (i := 0) (x := 1000000) (n := 127) d_Law_law_126 rfl rfl rfl ?_
  refine zr_iload_n (i := 3) (x := nI i) (n := 128) d_Law_law_127 rfl rfl rfl ?_
  refine zr_iconst (v := 2) (n := 129) d_Law_law_128 rfl (by decide) ?_
  refine zr_iadd (n := 130) d_Law_law_129 rfl ?_
  refine zr_sload (i + 2) (n := 131) d_Law_law_130 rfl (lx 2 (by decide) (by omega) hi hN) ?_
  refine zr_aload_n (i := 0) (x := 1000000) (n := 132) d_Law_law_131 rfl rfl rfl ?_
  refine zr_iload_n (i := 3) (x := nI i) (n := 133) d_Law_law_132 rfl rfl rfl ?_
  refine zr_iconst (v := 3) (n := 134) d_Law_law_133 rfl (by decide) ?_
  refine zr_iadd (n := 135) d_Law_law_134 rfl ?_
  refine zr_sload (i + 3) (n := 136) d_Law_law_135 rfl (lx 3 (by decide) (by omega) hi hN) ?_
  refine zr_if_eq (tgt := 143) (n := 139) d_Law_law_136 rfl (by decide) (fun hz => ?_) (fun hz => ?_)
  · refine zr_iconst (v := 0) (n := 144) d_Law_law_143 rfl (by decide) ?_
    refine zr_callV (M' := M_CM_make) (mc' := 0) (ms' := 0) (av := [.int (xs (i + 1)), .int (xs (i + 2)), .int 0]) (rest := []) (n := 147) d_Law_law_144 rfl w_Law_13 w_Law_13k gg_0 rfl rfl rfl rfl rfl rfl (Nat.le_refl _) (Nat.le_refl _) ?_
    refine pp_make (d := 5) (e := 6) hR (fun S1 r h1 => ?_)
    refine zr_aload_n (i := 2) (x := 27) (n := 148) d_Law_law_147 rfl rfl rfl ?_
    refine zr_aload_n (i := 0) (x := 1000000) (n := 149) d_Law_law_148 rfl rfl rfl ?_
    refine zr_iload_n (i := 3) (x := nI i) (n := 150) d_Law_law_149 rfl rfl rfl ?_
    refine zr_iconst (v := 1) (n := 151) d_Law_law_150 rfl (by decide) ?_
    refine zr_iadd (n := 152) d_Law_law_151 rfl ?_
    refine zr_sload (i + 1) (n := 153) d_Law_law_152 rfl (lx 1 (by decide) (by omega) hi hN) ?_
    refine zr_aload_n (i := 0) (x := 1000000) (n := 154) d_Law_law_153 rfl rfl rfl ?_
    refine zr_iload_n (i := 3) (x := nI i) (n := 155) d_Law_law_154 rfl rfl rfl ?_
    refine zr_iconst (v := 2) (n := 156) d_Law_law_155 rfl (by decide) ?_
    refine zr_iadd (n := 157) d_Law_law_156 rfl ?_
    refine zr_sload (i + 2) (n := 158) d_Law_law_157 rfl (lx 2 (by decide) (by omega) hi hN) ?_
    refine zr_aload_n (i := 0) (x := 1000000) (n := 159) d_Law_law_158 rfl rfl rfl ?_
    refine zr_iload_n (i := 3) (x := nI i) (n := 160) d_Law_law_159 rfl rfl rfl ?_
    refine zr_iconst (v := 3) (n := 161) d_Law_law_160 rfl (by decide) ?_
    refine zr_iadd (n := 162) d_Law_law_161 rfl ?_
    refine zr_sload (i + 3) (n := 163) d_Law_law_162 rfl (lx 3 (by decide) (by omega) hi hN) ?_
    refine zr_if_eq (tgt := 170) (n := 166) d_Law_law_163 rfl (by decide) (fun _ => ?_) (fun h => absurd hz h)
    refine zr_iconst (v := 0) (n := 171) d_Law_law_170 rfl (by decide) ?_
    refine zr_callV (M' := M_Md_make) (mc' := 0) (ms' := 0) (av := [.int (xs (i + 1)), .int (xs (i + 2)), .int 0]) (rest := [.int r]) (n := 174) d_Law_law_171 rfl w_Law_17 w_Law_17k gg_27 rfl rfl rfl rfl rfl rfl (Nat.le_refl _) (Nat.le_refl _) ?_
    refine h1 _ (fun S2 hR2 => ?_)
    exact zr_icmp_eq (tgt := 618) (n := 177) d_Law_law_174 rfl (by decide) (fun _ => hk S2 num (by omega) hR2) (fun h => absurd rfl h)
  · refine zr_iconst (v := 1) (n := 140) d_Law_law_139 rfl (by decide) ?_
    refine zr_goto (tgt := 144) d_Law_law_140 (by decide) ?_
    refine zr_callV (M' := M_CM_make) (mc' := 0) (ms' := 0) (av := [.int (xs (i + 1)), .int (xs (i + 2)), .int 1]) (rest := []) (n := 147) d_Law_law_144 rfl w_Law_13 w_Law_13k gg_0 rfl rfl rfl rfl rfl rfl (Nat.le_refl _) (Nat.le_refl _) ?_
    refine pp_make (d := 5) (e := 6) hR (fun S1 r h1 => ?_)
    refine zr_aload_n (i := 2) (x := 27) (n := 148) d_Law_law_147 rfl rfl rfl ?_
    refine zr_aload_n (i := 0) (x := 1000000) (n := 149) d_Law_law_148 rfl rfl rfl ?_
    refine zr_iload_n (i := 3) (x := nI i) (n := 150) d_Law_law_149 rfl rfl rfl ?_
    refine zr_iconst (v := 1) (n := 151) d_Law_law_150 rfl (by decide) ?_
    refine zr_iadd (n := 152) d_Law_law_151 rfl ?_
    refine zr_sload (i + 1) (n := 153) d_Law_law_152 rfl (lx 1 (by decide) (by omega) hi hN) ?_
    refine zr_aload_n (i := 0) (x := 1000000) (n := 154) d_Law_law_153 rfl rfl rfl ?_
    refine zr_iload_n (i := 3) (x := nI i) (n := 155) d_Law_law_154 rfl rfl rfl ?_
    refine zr_iconst (v := 2) (n := 156) d_Law_law_155 rfl (by decide) ?_
    refine zr_iadd (n := 157) d_Law_law_156 rfl ?_
    refine zr_sload (i + 2) (n := 158) d_Law_law_157 rfl (lx 2 (by decide) (by omega) hi hN) ?_
    refine zr_aload_n (i := 0) (x := 1000000) (n := 159) d_Law_law_158 rfl rfl rfl ?_
    refine zr_iload_n (i := 3) (x := nI i) (n := 160) d_Law_law_159 rfl rfl rfl ?_
    refine zr_iconst (v := 3) (n := 161) d_Law_law_160 rfl (by decide) ?_
    refine zr_iadd (n := 162) d_Law_law_161 rfl ?_
    refine zr_sload (i + 3) (n := 163) d_Law_law_162 rfl (lx 3 (by decide) (by omega) hi hN) ?_
    refine zr_if_eq (tgt := 170) (n := 166) d_Law_law_163 rfl (by decide) (fun h => absurd h hz) (fun _ => ?_)
    refine zr_iconst (v := 1) (n := 167) d_Law_law_166 rfl (by decide) ?_
    refine zr_goto (tgt := 171) d_Law_law_167 (by decide) ?_
    refine zr_callV (M' := M_Md_make) (mc' := 0) (ms' := 0) (av := [.int (xs (i + 1)), .int (xs (i + 2)), .int 1]) (rest := [.int r]) (n := 174) d_Law_law_171 rfl w_Law_17 w_Law_17k gg_27 rfl rfl rfl rfl rfl rfl (Nat.le_refl _) (Nat.le_refl _) ?_
    refine h1 _ (fun S2 hR2 => ?_)
    exact zr_icmp_eq (tgt := 618) (n := 177) d_Law_law_174 rfl (by decide) (fun _ => hk S2 num (by omega) hR2) (fun h => absurd rfl h)
theorem lw_c1 {nm : String} {N : Nat} {xs : Nat → Int32} {Q : zm_Q} {i num : Nat} {S : zm_S} (hi : i + 5 ≤ N) (hN : N ≤ 2560) (hnum : num ≤ i) (hR : RR num S) (hk : ∀ S' num', num' ≤ num + 1 → RR num' S' → zl nm N xs Q 618 i [] S') : zl nm N xs Q 179 i [] S := by
  refine zr_aload_n (i := 1) (x := 0) (n := 180) d_Law_law_179 rfl rfl rfl ?_
  refine zr_aload_n (i := 0) (x := 1000000) (n := 181) d_Law_law_180 rfl rfl rfl ?_
  refine zr_iload_n (i := 3) (x := nI i) (n := 182) d_Law_law_181 rfl rfl rfl ?_
  refine zr_iconst (v := 1) (n := 183) d_Law_law_182 rfl (by decide) ?_
  refine zr_iadd (n := 184) d_Law_law_183 rfl ?_
  refine zr_sload (i + 1) (n := 185) d_Law_law_184 rfl (lx 1 (by decide) (by omega) hi hN) ?_
  refine zr_callV (M' := M_CM_remove) (mc' := 0) (ms' := 0) (av := [.int (xs (i + 1))]) (rest := []) (n := 188) d_Law_law_185 rfl w_Law_18 w_Law_18k gg_0 rfl rfl rfl rfl rfl rfl (Nat.le_refl _) (Nat.le_refl _) ?_
  refine pp_remove (d := 6) (e := 6) hR (fun S1 r h1 => ?_)
  refine zr_aload_n (i := 2) (x := 27) (n := 189) d_Law_law_188 rfl rfl rfl ?_
  refine zr_aload_n (i := 0) (x := 1000000) (n := 190) d_Law_law_189 rfl rfl rfl ?_
  refine zr_iload_n (i := 3) (x := nI i) (n := 191) d_Law_law_190 rfl rfl rfl ?_
  refine zr_iconst (v := 1) (n := 192) d_Law_law_191 rfl (by decide) ?_
  refine zr_iadd (n := 193) d_Law_law_192 rfl ?_
  refine zr_sload (i + 1) (n := 194) d_Law_law_193 rfl (lx 1 (by decide) (by omega) hi hN) ?_
  refine zr_callV (M' := M_Md_remove) (mc' := 0) (ms' := 0) (av := [.int (xs (i + 1))]) (rest := [.int r]) (n := 197) d_Law_law_194 rfl w_Law_22 w_Law_22k gg_27 rfl rfl rfl rfl rfl rfl (Nat.le_refl _) (Nat.le_refl _) ?_
  refine h1 _ (fun S2 hR2 => ?_)
  exact zr_icmp_eq (tgt := 618) (n := 200) d_Law_law_197 rfl (by decide) (fun _ => hk S2 num (by omega) hR2) (fun h => absurd rfl h)
theorem lw_c2 {nm : String} {N : Nat} {xs : Nat → Int32} {Q : zm_Q} {i num : Nat} {S : zm_S} (hi : i + 5 ≤ N) (hN : N ≤ 2560) (hnum : num ≤ i) (hR : RR num S) (hk : ∀ S' num', num' ≤ num + 1 → RR num' S' → zl nm N xs Q 618 i [] S') : zl nm N xs Q 202 i [] S := by
  refine zr_aload_n (i := 1) (x := 0) (n := 203) d_Law_law_202 rfl rfl rfl ?_
  refine zr_aload_n (i := 0) (x := 1000000) (n := 204) d_Law_law_203 rfl rfl rfl ?_
  refine zr_iload_n (i := 3) (x := nI i) (n := 205) d_Law_law_204 rfl rfl rfl ?_
  refine zr_iconst (v := 1) (n := 206) d_Law_law_205 rfl (by decide) ?_
  refine zr_iadd (n := 207) d_Law_law_206 rfl ?_
  refine zr_sload (i + 1) (n := 208) d_Law_law_207 rfl (lx 1 (by decide) (by omega) hi hN) ?_
  refine zr_aload_n (i := 0) (x := 1000000) (n := 209) d_Law_law_208 rfl rfl rfl ?_
  refine zr_iload_n (i := 3) (x := nI i) (n := 210) d_Law_law_209 rfl rfl rfl ?_
  refine zr_iconst (v := 2) (n := 211) d_Law_law_210 rfl (by decide) ?_
  refine zr_iadd (n := 212) d_Law_law_211 rfl ?_
  refine zr_sload (i + 2) (n := 213) d_Law_law_212 rfl (lx 2 (by decide) (by omega) hi hN) ?_
  refine zr_callV (M' := M_CM_append) (mc' := 0) (ms' := 0) (av := [.int (xs (i + 1)), .int (xs (i + 2))]) (rest := []) (n := 216) d_Law_law_213 rfl w_Law_23 w_Law_23k gg_0 rfl rfl rfl rfl rfl rfl (Nat.le_refl _) (Nat.le_refl _) ?_
  refine pp_append (d := 6) (e := 6) hR (fun S1 r h1 => ?_)
  refine zr_aload_n (i := 2) (x := 27) (n := 217) d_Law_law_216 rfl rfl rfl ?_
  refine zr_aload_n (i := 0) (x := 1000000) (n := 218) d_Law_law_217 rfl rfl rfl ?_
  refine zr_iload_n (i := 3) (x := nI i) (n := 219) d_Law_law_218 rfl rfl rfl ?_
  refine zr_iconst (v := 1) (n := 220) d_Law_law_219 rfl (by decide) ?_
  refine zr_iadd (n := 221) d_Law_law_220 rfl ?_
  refine zr_sload (i + 1) (n := 222) d_Law_law_221 rfl (lx 1 (by decide) (by omega) hi hN) ?_
  refine zr_aload_n (i := 0) (x := 1000000) (n := 223) d_Law_law_222 rfl rfl rfl ?_
  refine zr_iload_n (i := 3) (x := nI i) (n := 224) d_Law_law_223 rfl rfl rfl ?_
  refine zr_iconst (v := 2) (n := 225) d_Law_law_224 rfl (by decide) ?_
  refine zr_iadd (n := 226) d_Law_law_225 rfl ?_
  refine zr_sload (i + 2) (n := 227) d_Law_law_226 rfl (lx 2 (by decide) (by omega) hi hN) ?_
  refine zr_callV (M' := M_Md_append) (mc' := 0) (ms' := 0) (av := [.int (xs (i + 1)), .int (xs (i + 2))]) (rest := [.int r]) (n := 230) d_Law_law_227 rfl w_Law_27 w_Law_27k gg_27 rfl rfl rfl rfl rfl rfl (Nat.le_refl _) (Nat.le_refl _) ?_
  refine h1 _ (fun S2 hR2 => ?_)
  exact zr_icmp_eq (tgt := 618) (n := 233) d_Law_law_230 rfl (by decide) (fun _ => hk S2 num (by omega) hR2) (fun h => absurd rfl h)
theorem lw_c3 {nm : String} {N : Nat} {xs : Nat → Int32} {Q : zm_Q} {i num : Nat} {S : zm_S} (hi : i + 5 ≤ N) (hN : N ≤ 2560) (hnum : num ≤ i) (hR : RR num S) (hk : ∀ S' num', num' ≤ num + 1 → RR num' S' → zl nm N xs Q 618 i [] S') : zl nm N xs Q 235 i [] S := by
  refine zr_aload_n (i := 1) (x := 0) (n := 236) d_Law_law_235 rfl rfl rfl ?_
  refine zr_aload_n (i := 0) (x := 1000000) (n := 237) d_Law_law_236 rfl rfl rfl ?_
  refine zr_iload_n (i := 3) (x := nI i) (n := 238) d_Law_law_237 rfl rfl rfl ?_
  refine zr_iconst (v := 1) (n := 239) d_Law_law_238 rfl (by decide) ?_
  refine zr_iadd (n := 240) d_Law_law_239 rfl ?_
  refine zr_sload (i + 1) (n := 241) d_Law_law_240 rfl (lx 1 (by decide) (by omega) hi hN) ?_
  refine zr_callV (M' := M_CM_empty) (mc' := 0) (ms' := 0) (av := [.int (xs (i + 1))]) (rest := []) (n := 244) d_Law_law_241 rfl w_Law_28 w_Law_28k gg_0 rfl rfl rfl rfl rfl rfl (Nat.le_refl _) (Nat.le_refl _) ?_
  refine pp_empty (d := 6) (e := 6) hR (fun S1 r h1 => ?_)
  refine zr_aload_n (i := 2) (x := 27) (n := 245) d_Law_law_244 rfl rfl rfl ?_
  refine zr_aload_n (i := 0) (x := 1000000) (n := 246) d_Law_law_245 rfl rfl rfl ?_
  refine zr_iload_n (i := 3) (x := nI i) (n := 247) d_Law_law_246 rfl rfl rfl ?_
  refine zr_iconst (v := 1) (n := 248) d_Law_law_247 rfl (by decide) ?_
  refine zr_iadd (n := 249) d_Law_law_248 rfl ?_
  refine zr_sload (i + 1) (n := 250) d_Law_law_249 rfl (lx 1 (by decide) (by omega) hi hN) ?_
  refine zr_callV (M' := M_Md_empty) (mc' := 0) (ms' := 0) (av := [.int (xs (i + 1))]) (rest := [.int r]) (n := 253) d_Law_law_250 rfl w_Law_31 w_Law_31k gg_27 rfl rfl rfl rfl rfl rfl (Nat.le_refl _) (Nat.le_refl _) ?_
  refine h1 _ (fun S2 hR2 => ?_)
  exact zr_icmp_eq (tgt := 618) (n := 256) d_Law_law_253 rfl (by decide) (fun _ => hk S2 num (by omega) hR2) (fun h => absurd rfl h)
theorem lw_c4 {nm : String} {N : Nat} {xs : Nat → Int32} {Q : zm_Q} {i num : Nat} {S : zm_S} (hi : i + 5 ≤ N) (hN : N ≤ 2560) (hnum : num ≤ i) (hR : RR num S) (hk : ∀ S' num', num' ≤ num + 1 → RR num' S' → zl nm N xs Q 618 i [] S') : zl nm N xs Q 258 i [] S := by
  refine zr_aload_n (i := 1) (x := 0) (n := 259) d_Law_law_258 rfl rfl rfl ?_
  refine zr_callV (M' := M_CM_publish) (mc' := 0) (ms' := 0) (av := []) (rest := []) (n := 262) d_Law_law_259 rfl w_Law_32 w_Law_32k gg_0 rfl rfl rfl rfl rfl rfl (Nat.le_refl _) (Nat.le_refl _) ?_
  refine pp_publish (d := 1) (e := 3) hR (by omega) (fun S1 r h1 => ?_)
  refine zr_aload_n (i := 2) (x := 27) (n := 263) d_Law_law_262 rfl rfl rfl ?_
  refine zr_callV (M' := M_Md_publish) (mc' := 0) (ms' := 0) (av := []) (rest := [.int r]) (n := 266) d_Law_law_263 rfl w_Law_36 w_Law_36k gg_27 rfl rfl rfl rfl rfl rfl (Nat.le_refl _) (Nat.le_refl _) ?_
  refine h1 _ (fun S2 hR2 => ?_)
  exact zr_icmp_eq (tgt := 618) (n := 269) d_Law_law_266 rfl (by decide) (fun _ => hk S2 (num + 1) (by omega) hR2) (fun h => absurd rfl h)
theorem lw_c5 {nm : String} {N : Nat} {xs : Nat → Int32} {Q : zm_Q} {i num : Nat} {S : zm_S} (hi : i + 5 ≤ N) (hN : N ≤ 2560) (hnum : num ≤ i) (hR : RR num S) (hk : ∀ S' num', num' ≤ num + 1 → RR num' S' → zl nm N xs Q 618 i [] S') : zl nm N xs Q 271 i [] S := by
  refine zr_aload_n (i := 1) (x := 0) (n := 272) d_Law_law_271 rfl rfl rfl ?_
  refine zr_callV (M' := M_CM_modules) (mc' := 0) (ms' := 0) (av := []) (rest := []) (n := 275) d_Law_law_272 rfl w_Law_37 w_Law_37k gg_0 rfl rfl rfl rfl rfl rfl (Nat.le_refl _) (Nat.le_refl _) ?_
  refine op_modules (d := 7) (e := 7) hR (fun S1 r h1 => ?_)
  refine zr_aload_n (i := 2) (x := 27) (n := 276) d_Law_law_275 rfl rfl rfl ?_
  refine zr_callV (M' := M_Md_modules) (mc' := 0) (ms' := 0) (av := []) (rest := [.int r]) (n := 279) d_Law_law_276 rfl w_Law_40 w_Law_40k gg_27 rfl rfl rfl rfl rfl rfl (Nat.le_refl _) (Nat.le_refl _) ?_
  refine h1 _ (fun S2 hR2 => ?_)
  exact zr_icmp_eq (tgt := 618) (n := 282) d_Law_law_279 rfl (by decide) (fun _ => hk S2 num (by omega) hR2) (fun h => absurd rfl h)
theorem lw_c6 {nm : String} {N : Nat} {xs : Nat → Int32} {Q : zm_Q} {i num : Nat} {S : zm_S} (hi : i + 5 ≤ N) (hN : N ≤ 2560) (hnum : num ≤ i) (hR : RR num S) (hk : ∀ S' num', num' ≤ num + 1 → RR num' S' → zl nm N xs Q 618 i [] S') : zl nm N xs Q 284 i [] S := by
  refine zr_aload_n (i := 1) (x := 0) (n := 285) d_Law_law_284 rfl rfl rfl ?_
  refine zr_aload_n (i := 0) (x := 1000000) (n := 286) d_Law_law_285 rfl rfl rfl ?_
  refine zr_iload_n (i := 3) (x := nI i) (n := 287) d_Law_law_286 rfl rfl rfl ?_
  refine zr_iconst (v := 1) (n := 288) d_Law_law_287 rfl (by decide) ?_
  refine zr_iadd (n := 289) d_Law_law_288 rfl ?_
  refine zr_sload (i + 1) (n := 290) d_Law_law_289 rfl (lx 1 (by decide) (by omega) hi hN) ?_
  refine zr_callV (M' := M_CM_module) (mc' := 0) (ms' := 0) (av := [.int (xs (i + 1))]) (rest := []) (n := 293) d_Law_law_290 rfl w_Law_41 w_Law_41k gg_0 rfl rfl rfl rfl rfl rfl (Nat.le_refl _) (Nat.le_refl _) ?_
  refine op_module (d := 7) (e := 7) hR (fun S1 r h1 => ?_)
  refine zr_aload_n (i := 2) (x := 27) (n := 294) d_Law_law_293 rfl rfl rfl ?_
  refine zr_aload_n (i := 0) (x := 1000000) (n := 295) d_Law_law_294 rfl rfl rfl ?_
  refine zr_iload_n (i := 3) (x := nI i) (n := 296) d_Law_law_295 rfl rfl rfl ?_
  refine zr_iconst (v := 1) (n := 297) d_Law_law_296 rfl (by decide) ?_
  refine zr_iadd (n := 298) d_Law_law_297 rfl ?_
  refine zr_sload (i + 1) (n := 299) d_Law_law_298 rfl (lx 1 (by decide) (by omega) hi hN) ?_
  refine zr_callV (M' := M_Md_module) (mc' := 0) (ms' := 0) (av := [.int (xs (i + 1))]) (rest := [.int r]) (n := 302) d_Law_law_299 rfl w_Law_44 w_Law_44k gg_27 rfl rfl rfl rfl rfl rfl (Nat.le_refl _) (Nat.le_refl _) ?_
  refine h1 _ (fun S2 hR2 => ?_)
  exact zr_icmp_eq (tgt := 618) (n := 305) d_Law_law_302 rfl (by decide) (fun _ => hk S2 num (by omega) hR2) (fun h => absurd rfl h)
theorem lw_c7 {nm : String} {N : Nat} {xs : Nat → Int32} {Q : zm_Q} {i num : Nat} {S : zm_S} (hi : i + 5 ≤ N) (hN : N ≤ 2560) (hnum : num ≤ i) (hR : RR num S) (hk : ∀ S' num', num' ≤ num + 1 → RR num' S' → zl nm N xs Q 618 i [] S') : zl nm N xs Q 307 i [] S := by
  refine zr_aload_n (i := 1) (x := 0) (n := 308) d_Law_law_307 rfl rfl rfl ?_
  refine zr_aload_n (i := 0) (x := 1000000) (n := 309) d_Law_law_308 rfl rfl rfl ?_
  refine zr_iload_n (i := 3) (x := nI i) (n := 310) d_Law_law_309 rfl rfl rfl ?_
  refine zr_iconst (v := 1) (n := 311) d_Law_law_310 rfl (by decide) ?_
  refine zr_iadd (n := 312) d_Law_law_311 rfl ?_
  refine zr_sload (i + 1) (n := 313) d_Law_law_312 rfl (lx 1 (by decide) (by omega) hi hN) ?_
  refine zr_callV (M' := M_CM_peek) (mc' := 0) (ms' := 0) (av := [.int (xs (i + 1))]) (rest := []) (n := 316) d_Law_law_313 rfl w_Law_45 w_Law_45k gg_0 rfl rfl rfl rfl rfl rfl (Nat.le_refl _) (Nat.le_refl _) ?_
  refine op_peek (d := 6) (e := 5) hR (by omega) (fun S1 r h1 => ?_)
  refine zr_aload_n (i := 2) (x := 27) (n := 317) d_Law_law_316 rfl rfl rfl ?_
  refine zr_aload_n (i := 0) (x := 1000000) (n := 318) d_Law_law_317 rfl rfl rfl ?_
  refine zr_iload_n (i := 3) (x := nI i) (n := 319) d_Law_law_318 rfl rfl rfl ?_
  refine zr_iconst (v := 1) (n := 320) d_Law_law_319 rfl (by decide) ?_
  refine zr_iadd (n := 321) d_Law_law_320 rfl ?_
  refine zr_sload (i + 1) (n := 322) d_Law_law_321 rfl (lx 1 (by decide) (by omega) hi hN) ?_
  refine zr_callV (M' := M_Md_peek) (mc' := 0) (ms' := 0) (av := [.int (xs (i + 1))]) (rest := [.int r]) (n := 325) d_Law_law_322 rfl w_Law_48 w_Law_48k gg_27 rfl rfl rfl rfl rfl rfl (Nat.le_refl _) (Nat.le_refl _) ?_
  refine h1 _ (fun S2 hR2 => ?_)
  exact zr_icmp_eq (tgt := 618) (n := 328) d_Law_law_325 rfl (by decide) (fun _ => hk S2 num (by omega) hR2) (fun h => absurd rfl h)
theorem lw_c8 {nm : String} {N : Nat} {xs : Nat → Int32} {Q : zm_Q} {i num : Nat} {S : zm_S} (hi : i + 5 ≤ N) (hN : N ≤ 2560) (hnum : num ≤ i) (hR : RR num S) (hk : ∀ S' num', num' ≤ num + 1 → RR num' S' → zl nm N xs Q 618 i [] S') : zl nm N xs Q 330 i [] S := by
  refine zr_aload_n (i := 1) (x := 0) (n := 331) d_Law_law_330 rfl rfl rfl ?_
  refine zr_aload_n (i := 0) (x := 1000000) (n := 332) d_Law_law_331 rfl rfl rfl ?_
  refine zr_iload_n (i := 3) (x := nI i) (n := 333) d_Law_law_332 rfl rfl rfl ?_
  refine zr_iconst (v := 1) (n := 334) d_Law_law_333 rfl (by decide) ?_
  refine zr_iadd (n := 335) d_Law_law_334 rfl ?_
  refine zr_sload (i + 1) (n := 336) d_Law_law_335 rfl (lx 1 (by decide) (by omega) hi hN) ?_
  refine zr_callV (M' := M_CM_send) (mc' := 0) (ms' := 0) (av := [.int (xs (i + 1))]) (rest := []) (n := 339) d_Law_law_336 rfl w_Law_49 w_Law_49k gg_0 rfl rfl rfl rfl rfl rfl (Nat.le_refl _) (Nat.le_refl _) ?_
  refine op_send (d := 1) (e := 0) hR (by omega) (fun S1 r h1 => ?_)
  refine zr_aload_n (i := 2) (x := 27) (n := 340) d_Law_law_339 rfl rfl rfl ?_
  refine zr_aload_n (i := 0) (x := 1000000) (n := 341) d_Law_law_340 rfl rfl rfl ?_
  refine zr_iload_n (i := 3) (x := nI i) (n := 342) d_Law_law_341 rfl rfl rfl ?_
  refine zr_iconst (v := 1) (n := 343) d_Law_law_342 rfl (by decide) ?_
  refine zr_iadd (n := 344) d_Law_law_343 rfl ?_
  refine zr_sload (i + 1) (n := 345) d_Law_law_344 rfl (lx 1 (by decide) (by omega) hi hN) ?_
  refine zr_callV (M' := M_Md_send) (mc' := 0) (ms' := 0) (av := [.int (xs (i + 1))]) (rest := [.int r]) (n := 348) d_Law_law_345 rfl w_Law_52 w_Law_52k gg_27 rfl rfl rfl rfl rfl rfl (Nat.le_refl _) (Nat.le_refl _) ?_
  refine h1 _ (fun S2 hR2 => ?_)
  exact zr_icmp_eq (tgt := 618) (n := 351) d_Law_law_348 rfl (by decide) (fun _ => hk S2 num (by omega) hR2) (fun h => absurd rfl h)
theorem lw_c9 {nm : String} {N : Nat} {xs : Nat → Int32} {Q : zm_Q} {i num : Nat} {S : zm_S} (hi : i + 5 ≤ N) (hN : N ≤ 2560) (hnum : num ≤ i) (hR : RR num S) (hk : ∀ S' num', num' ≤ num + 1 → RR num' S' → zl nm N xs Q 618 i [] S') : zl nm N xs Q 353 i [] S := by
  refine zr_aload_n (i := 1) (x := 0) (n := 354) d_Law_law_353 rfl rfl rfl ?_
  refine zr_aload_n (i := 0) (x := 1000000) (n := 355) d_Law_law_354 rfl rfl rfl ?_
  refine zr_iload_n (i := 3) (x := nI i) (n := 356) d_Law_law_355 rfl rfl rfl ?_
  refine zr_iconst (v := 1) (n := 357) d_Law_law_356 rfl (by decide) ?_
  refine zr_iadd (n := 358) d_Law_law_357 rfl ?_
  refine zr_sload (i + 1) (n := 359) d_Law_law_358 rfl (lx 1 (by decide) (by omega) hi hN) ?_
  refine zr_callV (M' := M_CM_lose) (mc' := 0) (ms' := 0) (av := [.int (xs (i + 1))]) (rest := []) (n := 362) d_Law_law_359 rfl w_Law_53 w_Law_53k gg_0 rfl rfl rfl rfl rfl rfl (Nat.le_refl _) (Nat.le_refl _) ?_
  refine op_lose (d := 4) (e := 0) hR (by omega) (fun S1 r h1 => ?_)
  refine zr_aload_n (i := 2) (x := 27) (n := 363) d_Law_law_362 rfl rfl rfl ?_
  refine zr_aload_n (i := 0) (x := 1000000) (n := 364) d_Law_law_363 rfl rfl rfl ?_
  refine zr_iload_n (i := 3) (x := nI i) (n := 365) d_Law_law_364 rfl rfl rfl ?_
  refine zr_iconst (v := 1) (n := 366) d_Law_law_365 rfl (by decide) ?_
  refine zr_iadd (n := 367) d_Law_law_366 rfl ?_
  refine zr_sload (i + 1) (n := 368) d_Law_law_367 rfl (lx 1 (by decide) (by omega) hi hN) ?_
  refine zr_callV (M' := M_Md_lose) (mc' := 0) (ms' := 0) (av := [.int (xs (i + 1))]) (rest := [.int r]) (n := 371) d_Law_law_368 rfl w_Law_56 w_Law_56k gg_27 rfl rfl rfl rfl rfl rfl (Nat.le_refl _) (Nat.le_refl _) ?_
  refine h1 _ (fun S2 hR2 => ?_)
  exact zr_icmp_eq (tgt := 618) (n := 374) d_Law_law_371 rfl (by decide) (fun _ => hk S2 num (by omega) hR2) (fun h => absurd rfl h)
theorem lw_c10 {nm : String} {N : Nat} {xs : Nat → Int32} {Q : zm_Q} {i num : Nat} {S : zm_S} (hi : i + 5 ≤ N) (hN : N ≤ 2560) (hnum : num ≤ i) (hR : RR num S) (hk : ∀ S' num', num' ≤ num + 1 → RR num' S' → zl nm N xs Q 618 i [] S') : zl nm N xs Q 376 i [] S := by
  refine zr_aload_n (i := 1) (x := 0) (n := 377) d_Law_law_376 rfl rfl rfl ?_
  refine zr_aload_n (i := 0) (x := 1000000) (n := 378) d_Law_law_377 rfl rfl rfl ?_
  refine zr_iload_n (i := 3) (x := nI i) (n := 379) d_Law_law_378 rfl rfl rfl ?_
  refine zr_iconst (v := 1) (n := 380) d_Law_law_379 rfl (by decide) ?_
  refine zr_iadd (n := 381) d_Law_law_380 rfl ?_
  refine zr_sload (i + 1) (n := 382) d_Law_law_381 rfl (lx 1 (by decide) (by omega) hi hN) ?_
  refine zr_aload_n (i := 0) (x := 1000000) (n := 383) d_Law_law_382 rfl rfl rfl ?_
  refine zr_iload_n (i := 3) (x := nI i) (n := 384) d_Law_law_383 rfl rfl rfl ?_
  refine zr_iconst (v := 2) (n := 385) d_Law_law_384 rfl (by decide) ?_
  refine zr_iadd (n := 386) d_Law_law_385 rfl ?_
  refine zr_sload (i + 2) (n := 387) d_Law_law_386 rfl (lx 2 (by decide) (by omega) hi hN) ?_
  refine zr_callV (M' := M_CM_spoil) (mc' := 0) (ms' := 0) (av := [.int (xs (i + 1)), .int (xs (i + 2))]) (rest := []) (n := 390) d_Law_law_387 rfl w_Law_57 w_Law_57k gg_0 rfl rfl rfl rfl rfl rfl (Nat.le_refl _) (Nat.le_refl _) ?_
  refine op_spoil (d := 1) (e := 1) hR (by omega) (fun S1 r h1 => ?_)
  refine zr_aload_n (i := 2) (x := 27) (n := 391) d_Law_law_390 rfl rfl rfl ?_
  refine zr_aload_n (i := 0) (x := 1000000) (n := 392) d_Law_law_391 rfl rfl rfl ?_
  refine zr_iload_n (i := 3) (x := nI i) (n := 393) d_Law_law_392 rfl rfl rfl ?_
  refine zr_iconst (v := 1) (n := 394) d_Law_law_393 rfl (by decide) ?_
  refine zr_iadd (n := 395) d_Law_law_394 rfl ?_
  refine zr_sload (i + 1) (n := 396) d_Law_law_395 rfl (lx 1 (by decide) (by omega) hi hN) ?_
  refine zr_aload_n (i := 0) (x := 1000000) (n := 397) d_Law_law_396 rfl rfl rfl ?_
  refine zr_iload_n (i := 3) (x := nI i) (n := 398) d_Law_law_397 rfl rfl rfl ?_
  refine zr_iconst (v := 2) (n := 399) d_Law_law_398 rfl (by decide) ?_
  refine zr_iadd (n := 400) d_Law_law_399 rfl ?_
  refine zr_sload (i + 2) (n := 401) d_Law_law_400 rfl (lx 2 (by decide) (by omega) hi hN) ?_
  refine zr_callV (M' := M_Md_spoil) (mc' := 0) (ms' := 0) (av := [.int (xs (i + 1)), .int (xs (i + 2))]) (rest := [.int r]) (n := 404) d_Law_law_401 rfl w_Law_60 w_Law_60k gg_27 rfl rfl rfl rfl rfl rfl (Nat.le_refl _) (Nat.le_refl _) ?_
  refine h1 _ (fun S2 hR2 => ?_)
  exact zr_icmp_eq (tgt := 618) (n := 407) d_Law_law_404 rfl (by decide) (fun _ => hk S2 num (by omega) hR2) (fun h => absurd rfl h)
theorem lw_c11 {nm : String} {N : Nat} {xs : Nat → Int32} {Q : zm_Q} {i num : Nat} {S : zm_S} (hi : i + 5 ≤ N) (hN : N ≤ 2560) (hnum : num ≤ i) (hR : RR num S) (hk : ∀ S' num', num' ≤ num + 1 → RR num' S' → zl nm N xs Q 618 i [] S') : zl nm N xs Q 409 i [] S := by
  refine zr_aload_n (i := 1) (x := 0) (n := 410) d_Law_law_409 rfl rfl rfl ?_
  refine zr_callV (M' := M_CM_retune) (mc' := 0) (ms' := 0) (av := []) (rest := []) (n := 413) d_Law_law_410 rfl w_Law_61 w_Law_61k gg_0 rfl rfl rfl rfl rfl rfl (Nat.le_refl _) (Nat.le_refl _) ?_
  refine op_retune (d := 4) (e := 6) hR (fun S1 h1 => ?_)
  refine zr_aload_n (i := 2) (x := 27) (n := 414) d_Law_law_413 rfl rfl rfl ?_
  refine zr_callV (M' := M_Md_retune) (mc' := 0) (ms' := 0) (av := []) (rest := []) (n := 417) d_Law_law_414 rfl w_Law_64 w_Law_64k gg_27 rfl rfl rfl rfl rfl rfl (Nat.le_refl _) (Nat.le_refl _) ?_
  refine h1 _ (fun S2 hR2 => ?_)
  refine zr_goto (tgt := 618) d_Law_law_417 (by decide) ?_
  exact hk S2 num (by omega) hR2
theorem lw_c12 {nm : String} {N : Nat} {xs : Nat → Int32} {Q : zm_Q} {i num : Nat} {S : zm_S} (hi : i + 5 ≤ N) (hN : N ≤ 2560) (hnum : num ≤ i) (hR : RR num S) (hk : ∀ S' num', num' ≤ num + 1 → RR num' S' → zl nm N xs Q 618 i [] S') : zl nm N xs Q 420 i [] S := by
  refine zr_aload_n (i := 1) (x := 0) (n := 421) d_Law_law_420 rfl rfl rfl ?_
  refine zr_aload_n (i := 0) (x := 1000000) (n := 422) d_Law_law_421 rfl rfl rfl ?_
  refine zr_iload_n (i := 3) (x := nI i) (n := 423) d_Law_law_422 rfl rfl rfl ?_
  refine zr_iconst (v := 1) (n := 424) d_Law_law_423 rfl (by decide) ?_
  refine zr_iadd (n := 425) d_Law_law_424 rfl ?_
  refine zr_sload (i + 1) (n := 426) d_Law_law_425 rfl (lx 1 (by decide) (by omega) hi hN) ?_
  refine zr_callV (M' := M_CM_count) (mc' := 0) (ms' := 0) (av := [.int (xs (i + 1))]) (rest := []) (n := 429) d_Law_law_426 rfl w_Law_65 w_Law_65k gg_0 rfl rfl rfl rfl rfl rfl (Nat.le_refl _) (Nat.le_refl _) ?_
  refine op_count (d := 7) (e := 6) hR (fun S1 r h1 => ?_)
  refine zr_aload_n (i := 2) (x := 27) (n := 430) d_Law_law_429 rfl rfl rfl ?_
  refine zr_aload_n (i := 0) (x := 1000000) (n := 431) d_Law_law_430 rfl rfl rfl ?_
  refine zr_iload_n (i := 3) (x := nI i) (n := 432) d_Law_law_431 rfl rfl rfl ?_
  refine zr_iconst (v := 1) (n := 433) d_Law_law_432 rfl (by decide) ?_
  refine zr_iadd (n := 434) d_Law_law_433 rfl ?_
  refine zr_sload (i + 1) (n := 435) d_Law_law_434 rfl (lx 1 (by decide) (by omega) hi hN) ?_
  refine zr_callV (M' := M_Md_count) (mc' := 0) (ms' := 0) (av := [.int (xs (i + 1))]) (rest := [.int r]) (n := 438) d_Law_law_435 rfl w_Law_68 w_Law_68k gg_27 rfl rfl rfl rfl rfl rfl (Nat.le_refl _) (Nat.le_refl _) ?_
  refine h1 _ (fun S2 hR2 => ?_)
  exact zr_icmp_eq (tgt := 618) (n := 441) d_Law_law_438 rfl (by decide) (fun _ => hk S2 num (by omega) hR2) (fun h => absurd rfl h)
theorem lw_c13 {nm : String} {N : Nat} {xs : Nat → Int32} {Q : zm_Q} {i num : Nat} {S : zm_S} (hi : i + 5 ≤ N) (hN : N ≤ 2560) (hnum : num ≤ i) (hR : RR num S) (hk : ∀ S' num', num' ≤ num + 1 → RR num' S' → zl nm N xs Q 618 i [] S') : zl nm N xs Q 443 i [] S := by
  refine zr_aload_n (i := 1) (x := 0) (n := 444) d_Law_law_443 rfl rfl rfl ?_
  refine zr_callV (M' := M_CM_transaction) (mc' := 0) (ms' := 0) (av := []) (rest := []) (n := 447) d_Law_law_444 rfl w_Law_69 w_Law_69k gg_0 rfl rfl rfl rfl rfl rfl (Nat.le_refl _) (Nat.le_refl _) ?_
  refine op_transaction (d := 7) (e := 7) hR (fun S1 r h1 => ?_)
  refine zr_aload_n (i := 2) (x := 27) (n := 448) d_Law_law_447 rfl rfl rfl ?_
  refine zr_callV (M' := M_Md_transaction) (mc' := 0) (ms' := 0) (av := []) (rest := [.int r]) (n := 451) d_Law_law_448 rfl w_Law_72 w_Law_72k gg_27 rfl rfl rfl rfl rfl rfl (Nat.le_refl _) (Nat.le_refl _) ?_
  refine h1 _ (fun S2 hR2 => ?_)
  exact zr_icmp_eq (tgt := 618) (n := 454) d_Law_law_451 rfl (by decide) (fun _ => hk S2 num (by omega) hR2) (fun h => absurd rfl h)
theorem lw_c14 {nm : String} {N : Nat} {xs : Nat → Int32} {Q : zm_Q} {i num : Nat} {S : zm_S} (hi : i + 5 ≤ N) (hN : N ≤ 2560) (hnum : num ≤ i) (hR : RR num S) (hk : ∀ S' num', num' ≤ num + 1 → RR num' S' → zl nm N xs Q 618 i [] S') : zl nm N xs Q 456 i [] S := by
  refine zr_aload_n (i := 1) (x := 0) (n := 457) d_Law_law_456 rfl rfl rfl ?_
  refine zr_aload_n (i := 0) (x := 1000000) (n := 458) d_Law_law_457 rfl rfl rfl ?_
  refine zr_iload_n (i := 3) (x := nI i) (n := 459) d_Law_law_458 rfl rfl rfl ?_
  refine zr_iconst (v := 1) (n := 460) d_Law_law_459 rfl (by decide) ?_
  refine zr_iadd (n := 461) d_Law_law_460 rfl ?_
  refine zr_sload (i + 1) (n := 462) d_Law_law_461 rfl (lx 1 (by decide) (by omega) hi hN) ?_
  refine zr_callV (M' := M_CM_held) (mc' := 0) (ms' := 0) (av := [.int (xs (i + 1))]) (rest := []) (n := 465) d_Law_law_462 rfl w_Law_73 w_Law_73k gg_0 rfl rfl rfl rfl rfl rfl (Nat.le_refl _) (Nat.le_refl _) ?_
  refine op_held (d := 5) (e := 6) hR (fun S1 r h1 => ?_)
  refine zr_aload_n (i := 2) (x := 27) (n := 466) d_Law_law_465 rfl rfl rfl ?_
  refine zr_aload_n (i := 0) (x := 1000000) (n := 467) d_Law_law_466 rfl rfl rfl ?_
  refine zr_iload_n (i := 3) (x := nI i) (n := 468) d_Law_law_467 rfl rfl rfl ?_
  refine zr_iconst (v := 1) (n := 469) d_Law_law_468 rfl (by decide) ?_
  refine zr_iadd (n := 470) d_Law_law_469 rfl ?_
  refine zr_sload (i + 1) (n := 471) d_Law_law_470 rfl (lx 1 (by decide) (by omega) hi hN) ?_
  refine zr_callV (M' := M_Md_held) (mc' := 0) (ms' := 0) (av := [.int (xs (i + 1))]) (rest := [.int r]) (n := 474) d_Law_law_471 rfl w_Law_76 w_Law_76k gg_27 rfl rfl rfl rfl rfl rfl (Nat.le_refl _) (Nat.le_refl _) ?_
  refine h1 _ (fun S2 hR2 => ?_)
  exact zr_icmp_eq (tgt := 618) (n := 477) d_Law_law_474 rfl (by decide) (fun _ => hk S2 num (by omega) hR2) (fun h => absurd rfl h)
theorem lw_c15 {nm : String} {N : Nat} {xs : Nat → Int32} {Q : zm_Q} {i num : Nat} {S : zm_S} (hi : i + 5 ≤ N) (hN : N ≤ 2560) (hnum : num ≤ i) (hR : RR num S) (hk : ∀ S' num', num' ≤ num + 1 → RR num' S' → zl nm N xs Q 618 i [] S') : zl nm N xs Q 479 i [] S := by
  refine zr_aload_n (i := 1) (x := 0) (n := 480) d_Law_law_479 rfl rfl rfl ?_
  refine zr_aload_n (i := 0) (x := 1000000) (n := 481) d_Law_law_480 rfl rfl rfl ?_
  refine zr_iload_n (i := 3) (x := nI i) (n := 482) d_Law_law_481 rfl rfl rfl ?_
  refine zr_iconst (v := 1) (n := 483) d_Law_law_482 rfl (by decide) ?_
  refine zr_iadd (n := 484) d_Law_law_483 rfl ?_
  refine zr_sload (i + 1) (n := 485) d_Law_law_484 rfl (lx 1 (by decide) (by omega) hi hN) ?_
  refine zr_aload_n (i := 0) (x := 1000000) (n := 486) d_Law_law_485 rfl rfl rfl ?_
  refine zr_iload_n (i := 3) (x := nI i) (n := 487) d_Law_law_486 rfl rfl rfl ?_
  refine zr_iconst (v := 2) (n := 488) d_Law_law_487 rfl (by decide) ?_
  refine zr_iadd (n := 489) d_Law_law_488 rfl ?_
  refine zr_sload (i + 2) (n := 490) d_Law_law_489 rfl (lx 2 (by decide) (by omega) hi hN) ?_
  refine zr_aload_n (i := 0) (x := 1000000) (n := 491) d_Law_law_490 rfl rfl rfl ?_
  refine zr_iload_n (i := 3) (x := nI i) (n := 492) d_Law_law_491 rfl rfl rfl ?_
  refine zr_iconst (v := 3) (n := 493) d_Law_law_492 rfl (by decide) ?_
  refine zr_iadd (n := 494) d_Law_law_493 rfl ?_
  refine zr_sload (i + 3) (n := 495) d_Law_law_494 rfl (lx 3 (by decide) (by omega) hi hN) ?_
  refine zr_callV (M' := M_CM_kind) (mc' := 0) (ms' := 0) (av := [.int (xs (i + 1)), .int (xs (i + 2)), .int (xs (i + 3))]) (rest := []) (n := 498) d_Law_law_495 rfl w_Law_77 w_Law_77k gg_0 rfl rfl rfl rfl rfl rfl (Nat.le_refl _) (Nat.le_refl _) ?_
  refine op_kind (d := 1) (e := 3) hR (fun S1 r h1 => ?_)
  refine zr_aload_n (i := 2) (x := 27) (n := 499) d_Law_law_498 rfl rfl rfl ?_
  refine zr_aload_n (i := 0) (x := 1000000) (n := 500) d_Law_law_499 rfl rfl rfl ?_
  refine zr_iload_n (i := 3) (x := nI i) (n := 501) d_Law_law_500 rfl rfl rfl ?_
  refine zr_iconst (v := 1) (n := 502) d_Law_law_501 rfl (by decide) ?_
  refine zr_iadd (n := 503) d_Law_law_502 rfl ?_
  refine zr_sload (i + 1) (n := 504) d_Law_law_503 rfl (lx 1 (by decide) (by omega) hi hN) ?_
  refine zr_aload_n (i := 0) (x := 1000000) (n := 505) d_Law_law_504 rfl rfl rfl ?_
  refine zr_iload_n (i := 3) (x := nI i) (n := 506) d_Law_law_505 rfl rfl rfl ?_
  refine zr_iconst (v := 2) (n := 507) d_Law_law_506 rfl (by decide) ?_
  refine zr_iadd (n := 508) d_Law_law_507 rfl ?_
  refine zr_sload (i + 2) (n := 509) d_Law_law_508 rfl (lx 2 (by decide) (by omega) hi hN) ?_
  refine zr_aload_n (i := 0) (x := 1000000) (n := 510) d_Law_law_509 rfl rfl rfl ?_
  refine zr_iload_n (i := 3) (x := nI i) (n := 511) d_Law_law_510 rfl rfl rfl ?_
  refine zr_iconst (v := 3) (n := 512) d_Law_law_511 rfl (by decide) ?_
  refine zr_iadd (n := 513) d_Law_law_512 rfl ?_
  refine zr_sload (i + 3) (n := 514) d_Law_law_513 rfl (lx 3 (by decide) (by omega) hi hN) ?_
  refine zr_callV (M' := M_Md_kind) (mc' := 0) (ms' := 0) (av := [.int (xs (i + 1)), .int (xs (i + 2)), .int (xs (i + 3))]) (rest := [.int r]) (n := 517) d_Law_law_514 rfl w_Law_81 w_Law_81k gg_27 rfl rfl rfl rfl rfl rfl (Nat.le_refl _) (Nat.le_refl _) ?_
  refine h1 _ (fun S2 hR2 => ?_)
  exact zr_icmp_eq (tgt := 618) (n := 520) d_Law_law_517 rfl (by decide) (fun _ => hk S2 num (by omega) hR2) (fun h => absurd rfl h)
theorem lw_c16 {nm : String} {N : Nat} {xs : Nat → Int32} {Q : zm_Q} {i num : Nat} {S : zm_S} (hi : i + 5 ≤ N) (hN : N ≤ 2560) (hnum : num ≤ i) (hR : RR num S) (hk : ∀ S' num', num' ≤ num + 1 → RR num' S' → zl nm N xs Q 618 i [] S') : zl nm N xs Q 522 i [] S := by
  refine zr_aload_n (i := 1) (x := 0) (n := 523) d_Law_law_522 rfl rfl rfl ?_
  refine zr_aload_n (i := 0) (x := 1000000) (n := 524) d_Law_law_523 rfl rfl rfl ?_
  refine zr_iload_n (i := 3) (x := nI i) (n := 525) d_Law_law_524 rfl rfl rfl ?_
  refine zr_iconst (v := 1) (n := 526) d_Law_law_525 rfl (by decide) ?_
  refine zr_iadd (n := 527) d_Law_law_526 rfl ?_
  refine zr_sload (i + 1) (n := 528) d_Law_law_527 rfl (lx 1 (by decide) (by omega) hi hN) ?_
  refine zr_aload_n (i := 0) (x := 1000000) (n := 529) d_Law_law_528 rfl rfl rfl ?_
  refine zr_iload_n (i := 3) (x := nI i) (n := 530) d_Law_law_529 rfl rfl rfl ?_
  refine zr_iconst (v := 2) (n := 531) d_Law_law_530 rfl (by decide) ?_
  refine zr_iadd (n := 532) d_Law_law_531 rfl ?_
  refine zr_sload (i + 2) (n := 533) d_Law_law_532 rfl (lx 2 (by decide) (by omega) hi hN) ?_
  refine zr_aload_n (i := 0) (x := 1000000) (n := 534) d_Law_law_533 rfl rfl rfl ?_
  refine zr_iload_n (i := 3) (x := nI i) (n := 535) d_Law_law_534 rfl rfl rfl ?_
  refine zr_iconst (v := 3) (n := 536) d_Law_law_535 rfl (by decide) ?_
  refine zr_iadd (n := 537) d_Law_law_536 rfl ?_
  refine zr_sload (i + 3) (n := 538) d_Law_law_537 rfl (lx 3 (by decide) (by omega) hi hN) ?_
  refine zr_callV (M' := M_CM_size) (mc' := 0) (ms' := 0) (av := [.int (xs (i + 1)), .int (xs (i + 2)), .int (xs (i + 3))]) (rest := []) (n := 541) d_Law_law_538 rfl w_Law_82 w_Law_82k gg_0 rfl rfl rfl rfl rfl rfl (Nat.le_refl _) (Nat.le_refl _) ?_
  refine op_size (d := 1) (e := 3) hR (fun S1 r h1 => ?_)
  refine zr_aload_n (i := 2) (x := 27) (n := 542) d_Law_law_541 rfl rfl rfl ?_
  refine zr_aload_n (i := 0) (x := 1000000) (n := 543) d_Law_law_542 rfl rfl rfl ?_
  refine zr_iload_n (i := 3) (x := nI i) (n := 544) d_Law_law_543 rfl rfl rfl ?_
  refine zr_iconst (v := 1) (n := 545) d_Law_law_544 rfl (by decide) ?_
  refine zr_iadd (n := 546) d_Law_law_545 rfl ?_
  refine zr_sload (i + 1) (n := 547) d_Law_law_546 rfl (lx 1 (by decide) (by omega) hi hN) ?_
  refine zr_aload_n (i := 0) (x := 1000000) (n := 548) d_Law_law_547 rfl rfl rfl ?_
  refine zr_iload_n (i := 3) (x := nI i) (n := 549) d_Law_law_548 rfl rfl rfl ?_
  refine zr_iconst (v := 2) (n := 550) d_Law_law_549 rfl (by decide) ?_
  refine zr_iadd (n := 551) d_Law_law_550 rfl ?_
  refine zr_sload (i + 2) (n := 552) d_Law_law_551 rfl (lx 2 (by decide) (by omega) hi hN) ?_
  refine zr_aload_n (i := 0) (x := 1000000) (n := 553) d_Law_law_552 rfl rfl rfl ?_
  refine zr_iload_n (i := 3) (x := nI i) (n := 554) d_Law_law_553 rfl rfl rfl ?_
  refine zr_iconst (v := 3) (n := 555) d_Law_law_554 rfl (by decide) ?_
  refine zr_iadd (n := 556) d_Law_law_555 rfl ?_
  refine zr_sload (i + 3) (n := 557) d_Law_law_556 rfl (lx 3 (by decide) (by omega) hi hN) ?_
  refine zr_callV (M' := M_Md_size) (mc' := 0) (ms' := 0) (av := [.int (xs (i + 1)), .int (xs (i + 2)), .int (xs (i + 3))]) (rest := [.int r]) (n := 560) d_Law_law_557 rfl w_Law_85 w_Law_85k gg_27 rfl rfl rfl rfl rfl rfl (Nat.le_refl _) (Nat.le_refl _) ?_
  refine h1 _ (fun S2 hR2 => ?_)
  exact zr_icmp_eq (tgt := 618) (n := 563) d_Law_law_560 rfl (by decide) (fun _ => hk S2 num (by omega) hR2) (fun h => absurd rfl h)
theorem lw_c17 {nm : String} {N : Nat} {xs : Nat → Int32} {Q : zm_Q} {i num : Nat} {S : zm_S} (hi : i + 5 ≤ N) (hN : N ≤ 2560) (hnum : num ≤ i) (hR : RR num S) (hk : ∀ S' num', num' ≤ num + 1 → RR num' S' → zl nm N xs Q 618 i [] S') : zl nm N xs Q 565 i [] S := by
  refine zr_aload_n (i := 1) (x := 0) (n := 566) d_Law_law_565 rfl rfl rfl ?_
  refine zr_aload_n (i := 0) (x := 1000000) (n := 567) d_Law_law_566 rfl rfl rfl ?_
  refine zr_iload_n (i := 3) (x := nI i) (n := 568) d_Law_law_567 rfl rfl rfl ?_
  refine zr_iconst (v := 1) (n := 569) d_Law_law_568 rfl (by decide) ?_
  refine zr_iadd (n := 570) d_Law_law_569 rfl ?_
  refine zr_sload (i + 1) (n := 571) d_Law_law_570 rfl (lx 1 (by decide) (by omega) hi hN) ?_
  refine zr_aload_n (i := 0) (x := 1000000) (n := 572) d_Law_law_571 rfl rfl rfl ?_
  refine zr_iload_n (i := 3) (x := nI i) (n := 573) d_Law_law_572 rfl rfl rfl ?_
  refine zr_iconst (v := 2) (n := 574) d_Law_law_573 rfl (by decide) ?_
  refine zr_iadd (n := 575) d_Law_law_574 rfl ?_
  refine zr_sload (i + 2) (n := 576) d_Law_law_575 rfl (lx 2 (by decide) (by omega) hi hN) ?_
  refine zr_aload_n (i := 0) (x := 1000000) (n := 577) d_Law_law_576 rfl rfl rfl ?_
  refine zr_iload_n (i := 3) (x := nI i) (n := 578) d_Law_law_577 rfl rfl rfl ?_
  refine zr_iconst (v := 3) (n := 579) d_Law_law_578 rfl (by decide) ?_
  refine zr_iadd (n := 580) d_Law_law_579 rfl ?_
  refine zr_sload (i + 3) (n := 581) d_Law_law_580 rfl (lx 3 (by decide) (by omega) hi hN) ?_
  refine zr_aload_n (i := 0) (x := 1000000) (n := 582) d_Law_law_581 rfl rfl rfl ?_
  refine zr_iload_n (i := 3) (x := nI i) (n := 583) d_Law_law_582 rfl rfl rfl ?_
  refine zr_iconst (v := 4) (n := 584) d_Law_law_583 rfl (by decide) ?_
  refine zr_iadd (n := 585) d_Law_law_584 rfl ?_
  refine zr_sload (i + 4) (n := 586) d_Law_law_585 rfl (lx 4 (by decide) (by omega) hi hN) ?_
  refine zr_callV (M' := M_CM_read) (mc' := 0) (ms' := 0) (av := [.int (xs (i + 1)), .int (xs (i + 2)), .int (xs (i + 3)), .int (xs (i + 4))]) (rest := []) (n := 589) d_Law_law_586 rfl w_Law_86 w_Law_86k gg_0 rfl rfl rfl rfl rfl rfl (Nat.le_refl _) (Nat.le_refl _) ?_
  refine op_read (d := 1) (e := 3) hR (fun S1 r h1 => ?_)
  refine zr_aload_n (i := 2) (x := 27) (n := 590) d_Law_law_589 rfl rfl rfl ?_
  refine zr_aload_n (i := 0) (x := 1000000) (n := 591) d_Law_law_590 rfl rfl rfl ?_
  refine zr_iload_n (i := 3) (x := nI i) (n := 592) d_Law_law_591 rfl rfl rfl ?_
  refine zr_iconst (v := 1) (n := 593) d_Law_law_592 rfl (by decide) ?_
  refine zr_iadd (n := 594) d_Law_law_593 rfl ?_
  refine zr_sload (i + 1) (n := 595) d_Law_law_594 rfl (lx 1 (by decide) (by omega) hi hN) ?_
  refine zr_aload_n (i := 0) (x := 1000000) (n := 596) d_Law_law_595 rfl rfl rfl ?_
  refine zr_iload_n (i := 3) (x := nI i) (n := 597) d_Law_law_596 rfl rfl rfl ?_
  refine zr_iconst (v := 2) (n := 598) d_Law_law_597 rfl (by decide) ?_
  refine zr_iadd (n := 599) d_Law_law_598 rfl ?_
  refine zr_sload (i + 2) (n := 600) d_Law_law_599 rfl (lx 2 (by decide) (by omega) hi hN) ?_
  refine zr_aload_n (i := 0) (x := 1000000) (n := 601) d_Law_law_600 rfl rfl rfl ?_
  refine zr_iload_n (i := 3) (x := nI i) (n := 602) d_Law_law_601 rfl rfl rfl ?_
  refine zr_iconst (v := 3) (n := 603) d_Law_law_602 rfl (by decide) ?_
  refine zr_iadd (n := 604) d_Law_law_603 rfl ?_
  refine zr_sload (i + 3) (n := 605) d_Law_law_604 rfl (lx 3 (by decide) (by omega) hi hN) ?_
  refine zr_aload_n (i := 0) (x := 1000000) (n := 606) d_Law_law_605 rfl rfl rfl ?_
  refine zr_iload_n (i := 3) (x := nI i) (n := 607) d_Law_law_606 rfl rfl rfl ?_
  refine zr_iconst (v := 4) (n := 608) d_Law_law_607 rfl (by decide) ?_
  refine zr_iadd (n := 609) d_Law_law_608 rfl ?_
  refine zr_sload (i + 4) (n := 610) d_Law_law_609 rfl (lx 4 (by decide) (by omega) hi hN) ?_
  refine zr_callV (M' := M_Md_read) (mc' := 0) (ms' := 0) (av := [.int (xs (i + 1)), .int (xs (i + 2)), .int (xs (i + 3)), .int (xs (i + 4))]) (rest := [.int r]) (n := 613) d_Law_law_610 rfl w_Law_90 w_Law_90k gg_27 rfl rfl rfl rfl rfl rfl (Nat.le_refl _) (Nat.le_refl _) ?_
  refine h1 _ (fun S2 hR2 => ?_)
  exact zr_icmp_eq (tgt := 618) (n := 616) d_Law_law_613 rfl (by decide) (fun _ => hk S2 num (by omega) hR2) (fun h => absurd rfl h)
theorem lw_step {nm : String} {N : Nat} {xs : Nat → Int32} {Q : zm_Q} {i num : Nat} {S : zm_S} (hi : i + 5 ≤ N) (hN : N ≤ 2560) (hnum : num ≤ i) (hR : RR num S) (hk : ∀ S' num', num' ≤ num + 1 → RR num' S' → zl nm N xs Q 618 i [] S') : zl nm N xs Q 26 i [] S := by
  refine zr_aload_n (i := 0) (x := 1000000) (n := 27) d_Law_law_26 rfl rfl rfl ?_
  refine zr_iload_n (i := 3) (x := nI i) (n := 28) d_Law_law_27 rfl rfl rfl ?_
  refine zr_sload i (n := 29) d_Law_law_28 rfl (zm_ixN (by omega) (by omega)) ?_
  refine zr_bipush (v := 31) (n := 31) d_Law_law_29 rfl (by decide) ?_
  refine zr_iand (n := 32) d_Law_law_31 rfl ?_
  obtain ⟨k, hk32, e⟩ := and31 (xs i)
  rw [e]
  match k, hk32 with
  | 0, _ => exact zr_tableIn (off := 88) (tgt := 120) d_Law_law_32 (by decide) (by decide) (by decide) (by decide) (lw_c0 hi hN hnum hR hk)
  | 1, _ => exact zr_tableIn (off := 147) (tgt := 179) d_Law_law_32 (by decide) (by decide) (by decide) (by decide) (lw_c1 hi hN hnum hR hk)
  | 2, _ => exact zr_tableIn (off := 170) (tgt := 202) d_Law_law_32 (by decide) (by decide) (by decide) (by decide) (lw_c2 hi hN hnum hR hk)
  | 3, _ => exact zr_tableIn (off := 203) (tgt := 235) d_Law_law_32 (by decide) (by decide) (by decide) (by decide) (lw_c3 hi hN hnum hR hk)
  | 4, _ => exact zr_tableIn (off := 226) (tgt := 258) d_Law_law_32 (by decide) (by decide) (by decide) (by decide) (lw_c4 hi hN hnum hR hk)
  | 5, _ => exact zr_tableIn (off := 239) (tgt := 271) d_Law_law_32 (by decide) (by decide) (by decide) (by decide) (lw_c5 hi hN hnum hR hk)
  | 6, _ => exact zr_tableIn (off := 252) (tgt := 284) d_Law_law_32 (by decide) (by decide) (by decide) (by decide) (lw_c6 hi hN hnum hR hk)
  | 7, _ => exact zr_tableIn (off := 275) (tgt := 307) d_Law_law_32 (by decide) (by decide) (by decide) (by decide) (lw_c7 hi hN hnum hR hk)
  | 8, _ => exact zr_tableIn (off := 298) (tgt := 330) d_Law_law_32 (by decide) (by decide) (by decide) (by decide) (lw_c8 hi hN hnum hR hk)
  | 9, _ => exact zr_tableIn (off := 321) (tgt := 353) d_Law_law_32 (by decide) (by decide) (by decide) (by decide) (lw_c9 hi hN hnum hR hk)
  | 10, _ => exact zr_tableIn (off := 344) (tgt := 376) d_Law_law_32 (by decide) (by decide) (by decide) (by decide) (lw_c10 hi hN hnum hR hk)
  | 11, _ => exact zr_tableIn (off := 377) (tgt := 409) d_Law_law_32 (by decide) (by decide) (by decide) (by decide) (lw_c11 hi hN hnum hR hk)
  | 12, _ => exact zr_tableIn (off := 388) (tgt := 420) d_Law_law_32 (by decide) (by decide) (by decide) (by decide) (lw_c12 hi hN hnum hR hk)
  | 13, _ => exact zr_tableIn (off := 411) (tgt := 443) d_Law_law_32 (by decide) (by decide) (by decide) (by decide) (lw_c13 hi hN hnum hR hk)
  | 14, _ => exact zr_tableIn (off := 424) (tgt := 456) d_Law_law_32 (by decide) (by decide) (by decide) (by decide) (lw_c14 hi hN hnum hR hk)
  | 15, _ => exact zr_tableIn (off := 447) (tgt := 479) d_Law_law_32 (by decide) (by decide) (by decide) (by decide) (lw_c15 hi hN hnum hR hk)
  | 16, _ => exact zr_tableIn (off := 490) (tgt := 522) d_Law_law_32 (by decide) (by decide) (by decide) (by decide) (lw_c16 hi hN hnum hR hk)
  | 17, _ => exact zr_tableIn (off := 533) (tgt := 565) d_Law_law_32 (by decide) (by decide) (by decide) (by decide) (lw_c17 hi hN hnum hR hk)
  | k + 18, h => exact zr_tableOut (tgt := 618) d_Law_law_32 (Or.inr (by rw [nI_toInt (by omega)]; omega)) (by decide) (hk S num (by omega) hR)
theorem lw_loop {nm : String} {N : Nat} {xs : Nat → Int32} {Q : zm_Q} (hN : N ≤ 2560) (hq : ∀ S, Q (some 1) GG S) : ∀ (t i num : Nat) (S : zm_S), N < i + 5 * (t + 1) → i ≤ N + 5 → num ≤ i → RR num S → zl nm N xs Q 18 i [] S := by
  intro t
  have c5 : ∀ i, i ≤ N + 5 → (nI N - 5 < nI i ↔ N < i + 5) := by
    intro i hi
    by_cases h5 : 5 ≤ N
    · rw [show nI N - 5 = nI (N - 5) from pk_sub (b := 5) h5]
      have h' : nI (N - 5) < nI i ↔ N - 5 < i := nI_ltI (by omega) (by omega)
      rw [h']; omega
    · refine ⟨fun _ => by omega, fun _ => ?_⟩
      have h1 : nI N - 5 < 0 := pk_sneg (b := 5) (by decide) (by omega)
      have h2 := nI_toInt (n := i) (by omega)
      rw [Int32.lt_iff_toInt_lt, i0] at h1
      rw [Int32.lt_iff_toInt_lt, h2]
      omega
  have hd : ∀ (i : Nat) (S : zm_S), (nI N - 5 < nI i → zl nm N xs Q 624 i [] S) → (¬ nI N - 5 < nI i → zl nm N xs Q 26 i [] S) → zl nm N xs Q 18 i [] S := by
    intro i S h1 h2
    refine zr_iload_n (i := 3) (x := nI i) (n := 19) d_Law_law_18 rfl rfl rfl ?_
    refine zr_aload_n (i := 0) (x := 1000000) (n := 20) d_Law_law_19 rfl rfl rfl ?_
    refine zr_slen (n := 21) d_Law_law_20 rfl ?_
    refine zr_iconst (v := 5) (n := 22) d_Law_law_21 rfl (by decide) ?_
    refine zr_isub (n := 23) d_Law_law_22 rfl ?_
    exact zr_icmp_gt (tgt := 624) (n := 26) d_Law_law_23 rfl (by decide) h1 h2
  have ex : ∀ (i : Nat) (S : zm_S), zl nm N xs Q 624 i [] S := by
    intro i S
    refine zr_iconst (v := 1) (n := 625) d_Law_law_624 rfl (by decide) ?_
    exact zr_ireturn d_Law_law_625 rfl rfl (Nat.le_refl _) (Nat.le_refl _) (hq S)
  induction t with
  | zero =>
    intro i num S h1 h2 h3 hR
    exact hd i S (fun _ => ex i S) (fun h => absurd ((c5 i h2).mpr (by omega)) h)
  | succ t ih =>
    intro i num S h1 h2 h3 hR
    refine hd i S (fun _ => ex i S) (fun h => ?_)
    have hi : i + 5 ≤ N := by
      have : ¬ N < i + 5 := fun x => h ((c5 i h2).mpr x)
      omega
    refine lw_step hi hN h3 hR (fun S' num' hn hR' => ?_)
    refine zr_iinc (i := 3) (w := 5) (x := nI i) (L' := [some (.ref 1000000), some (.ref 0), some (.ref 27), some (.int (nI i + 5))]) (n := 621) d_Law_law_618 rfl (by decide) rfl rfl ?_
    refine zr_goto (tgt := 18) d_Law_law_621 (by decide) ?_
    have := ih (i + 5) num' S' (by omega) (by omega) (by omega) hR'
    rw [show nI i + 5 = nI (i + 5) from nI_add i 5]
    exact this
theorem lw_main {nm : String} {N : Nat} {xs : Nat → Int32} {Q : zm_Q} {S : zm_S} (hN : N ≤ 2560) (hq : ∀ S, Q (some 1) GG S) : zm_WP (M_LawN nm) (some (N, xs)) 8 50 7009 Q 0 [some (.ref 1000000), none, none, none] [] [] S 0 0 := by
  refine zr_new (ci := 0) (N := 4) (g := 0) (C := R_CM) (T := F_CM) (rs := [some .null, some .null, some .null, some .null]) (G' := g_1) (n := 3) d_Law_law_0 rfl rfl uin_CM tw_CM nw_Law_7 df_CM rfl (Nat.le_of_ble_eq_true rfl) (Nat.le_of_ble_eq_true rfl) rfl rfl rfl rfl rfl rfl ?_
  refine zr_dup (n := 4) d_Law_law_3 rfl rfl ?_
  refine zr_callI (M' := M_CM_init) (mc' := 26) (ms' := 3204) (b := 0) (av := []) (rest := [.ref 0]) (n := 7) d_Law_law_4 rfl w_Law_9 rfl rfl w_Law_9k rfl rfl rfl rfl rfl (Nat.le_of_ble_eq_true rfl) (Nat.le_of_ble_eq_true rfl) ?_
  refine n_CM_init (d := 4) ?_
  refine zr_astore_n (i := 1) (L' := [some (.ref 1000000), some (.ref 0), none, none]) (n := 8) d_Law_law_7 rfl rfl rfl rfl ?_
  refine zr_new (ci := 7) (N := 33) (g := 27) (C := R_Md) (T := F_Md) (rs := [some .null, some .null, some .null, some .null, some .null, none, none, some .null, some .null, some .null, none, some .null, some .null, some .null, some .null, some .null, some .null, none, none, none, none, some .null, none, none, some .null, some .null, some .null, some .null, some .null, none, none, some .null, some .null]) (G' := g_54) (n := 11) d_Law_law_8 rfl rfl uin_Md tw_Md nw_Law_10 df_Md rfl (Nat.le_of_ble_eq_true rfl) (Nat.le_of_ble_eq_true rfl) rfl rfl rfl rfl rfl rfl ?_
  refine zr_dup (n := 12) d_Law_law_11 rfl rfl ?_
  refine zr_callI (M' := M_Md_init) (mc' := 22) (ms' := 3768) (b := 27) (av := []) (rest := [.ref 27]) (n := 15) d_Law_law_12 rfl w_Law_12 rfl rfl w_Law_12k rfl rfl rfl rfl rfl (Nat.le_of_ble_eq_true rfl) (Nat.le_of_ble_eq_true rfl) ?_
  refine n_Md_init (d := 6) ?_
  refine zr_astore_n (i := 2) (L' := [some (.ref 1000000), some (.ref 0), some (.ref 27), none]) (n := 16) d_Law_law_15 rfl rfl rfl rfl ?_
  refine zr_iconst (v := 0) (n := 17) d_Law_law_16 rfl (by decide) ?_
  refine zr_istore_n (i := 3) (L' := [some (.ref 1000000), some (.ref 0), some (.ref 27), some (.int 0)]) (n := 18) d_Law_law_17 rfl rfl rfl rfl ?_
  exact lw_loop hN hq 512 0 0 (SI S) (by omega) (by omega) (Nat.le_refl _) (RR.first S)
