
abbrev M_law : MethodName × ByteArray × Nat × Option FieldType := (x, code, 4, ret)
def sk_FX (M : sk_M) (d kc ks : Nat) (Z : sk_P) (sL : Nat) (sx : Nat → Int32) : Prop :=
  ∃ (p : Program) (l : Launch) (e : Env) (R : Room) (s : State) (m : MethodId) (args : Array Value) (below : List Frame) (meth : Method) (c : Code) (E : sk_E) (ad0 : Nat → Nat) (n0 : Nat) (Q : State → Prop),
    Z = sk_G p l e R s m args below meth c M.2.2.1 E ad0 n0 Q ∧ sk_X p s m args meth c M E ad0 n0 ∧ sk_r R d kc ks ∧ eL E = sL ∧ eX E = sx
theorem sk_FX.F {M : sk_M} {d kc ks : Nat} {Z : sk_P} {sL : Nat} {sx : Nat → Int32} (h : sk_FX M d kc ks Z sL sx) : sk_F M d kc ks Z := by
  obtain ⟨p, l, e, R, s, m, args, below, meth, c, E, ad0, n0, Q, h1, h2, h3, -⟩ := h
  exact ⟨p, l, e, R, s, m, args, below, meth, c, E, ad0, n0, Q, h1, h2, h3⟩
section SKL
variable {M : sk_M} {d kc ks : Nat} {Z : sk_P} {w : sk_H} {pc : Nat} {lv : List (Nat × Value)} {st : List Value} {k n : Nat} {sL : Nat} {sx : Nat → Int32}
theorem go_sld (F : sk_FX M d kc ks Z sL sx) {x : Int32} (hd : decode M.2.1 pc = .ok (.iaload, 1)) (hin : vp_in x sL) (h : Z w (pc + 1) lv (.int (sx x.toNatClampNeg) :: st) k n) : Z w pc lv (.int x :: .ref 0 :: st) k n := by
  obtain ⟨p, l, e, R, s, m, args, below, meth, c', E, ad0, n0, Q, rfl, ⟨hx, hb, hml, hown, hts, hK, hO, hA, hn0, had, hnm⟩, hR, rfl, rfl⟩ := F
  intro ad H locs ls a1 a2 a3 a4 a5 a6 a7 a8 a9
  have hk := k_sk
  have h2 := h ad H locs ls a1 a2 a3 (sk_cons sk_oV_int (sk_tail (sk_tail a4))) a5 a6 a7 a8 a9
  have e1 : (Value.int x :: .ref 0 :: st).map (sk_v ad) = .int x :: .ref (eO E 0) :: st.map (sk_v ad) := by
    show Value.int x :: Value.ref (ad 0) :: _ = _
    rw [adO a5 hn0 had (by omega)]
  rw [e1]
  exact va_sld hx hb hO.1.1 hO.1.2.1 hO.1.2.2 a9 hin hd h2
theorem go_slen (F : sk_FX M d kc ks Z sL sx) (hd : decode M.2.1 pc = .ok (.arraylength, 1)) (h : Z w (pc + 1) lv (.int (nI sL) :: st) k n) : Z w pc lv (.ref 0 :: st) k n := by
  obtain ⟨p, l, e, R, s, m, args, below, meth, c', E, ad0, n0, Q, rfl, ⟨hx, hb, hml, hown, hts, hK, hO, hA, hn0, had, hnm⟩, hR, rfl, rfl⟩ := F
  intro ad H locs ls a1 a2 a3 a4 a5 a6 a7 a8 a9
  have hk := k_sk
  have h2 := h ad H locs ls a1 a2 a3 (sk_cons sk_oV_int (sk_tail a4)) a5 a6 a7 a8 a9
  have e1 : (Value.ref 0 :: st).map (sk_v ad) = .ref (eO E 0) :: st.map (sk_v ad) := by
    show Value.ref (ad 0) :: _ = _
    rw [adO a5 hn0 had (by omega)]
  rw [e1]
  exact va_slen hx hb hO.1.1 hO.1.2.1 hO.1.2.2 a9 hd h2
theorem g_tab (F : sk_F M d kc ks Z) {x : Int32} {dflt lo hi off v : Int} {offs : Array Int} {len tgt : Nat} (hd : decode M.2.1 pc = .ok (.tableswitch dflt lo hi offs, len)) (hv : x.toInt = v) (h1 : ¬ v < lo) (h2 : ¬ hi < v) (ho : offs[(v - lo).toNat]? = some off) (ht : (pc : Int) + off = (tgt : Int)) (h : Z w tgt lv st k n) : Z w pc lv (.int x :: st) k n :=
  g_tableIn F hd (by rw [hv]; exact h1) (by rw [hv]; exact h2) (by rw [hv]; exact ho) ht h
end SKL

theorem d_law_0 : decode M_law.2.1 0 = .ok (.new 7, 3) := by decide +kernel
theorem d_law_3 : decode M_law.2.1 3 = .ok (.dup, 1) := by decide +kernel
theorem d_law_4 : decode M_law.2.1 4 = .ok (.invokespecial 9, 3) := by decide +kernel
theorem d_law_7 : decode M_law.2.1 7 = .ok (.astore_n 1, 1) := by decide +kernel
theorem d_law_8 : decode M_law.2.1 8 = .ok (.new 10, 3) := by decide +kernel
theorem d_law_11 : decode M_law.2.1 11 = .ok (.dup, 1) := by decide +kernel
theorem d_law_12 : decode M_law.2.1 12 = .ok (.invokespecial 12, 3) := by decide +kernel
theorem d_law_15 : decode M_law.2.1 15 = .ok (.astore_n 2, 1) := by decide +kernel
theorem d_law_16 : decode M_law.2.1 16 = .ok (.iconst 0, 1) := by decide +kernel
theorem d_law_17 : decode M_law.2.1 17 = .ok (.istore_n 3, 1) := by decide +kernel
theorem d_law_18 : decode M_law.2.1 18 = .ok (.iload_n 3, 1) := by decide +kernel
theorem d_law_19 : decode M_law.2.1 19 = .ok (.aload_n 0, 1) := by decide +kernel
theorem d_law_20 : decode M_law.2.1 20 = .ok (.arraylength, 1) := by decide +kernel
theorem d_law_21 : decode M_law.2.1 21 = .ok (.iconst 4, 1) := by decide +kernel
theorem d_law_22 : decode M_law.2.1 22 = .ok (.isub, 1) := by decide +kernel
theorem d_law_23 : decode M_law.2.1 23 = .ok (.if_icmp .gt 628, 3) := by decide +kernel
theorem d_law_26 : decode M_law.2.1 26 = .ok (.aload_n 0, 1) := by decide +kernel
theorem d_law_27 : decode M_law.2.1 27 = .ok (.iload_n 3, 1) := by decide +kernel
theorem d_law_28 : decode M_law.2.1 28 = .ok (.iaload, 1) := by decide +kernel
theorem d_law_29 : decode M_law.2.1 29 = .ok (.bipush 31, 2) := by decide +kernel
theorem d_law_31 : decode M_law.2.1 31 = .ok (.iand, 1) := by decide +kernel
theorem d_law_32 : decode M_law.2.1 32 = .ok (.tableswitch 613 0 20 #[100, 163, 176, 209, 222, 265, 298, 321, 334, 347, 370, 393, 426, 459, 482, 495, 508, 531, 564, 587, 600], 100) := by decide +kernel
theorem d_law_132 : decode M_law.2.1 132 = .ok (.aload_n 1, 1) := by decide +kernel
theorem d_law_133 : decode M_law.2.1 133 = .ok (.aload_n 0, 1) := by decide +kernel
theorem d_law_134 : decode M_law.2.1 134 = .ok (.iload_n 3, 1) := by decide +kernel
theorem d_law_135 : decode M_law.2.1 135 = .ok (.iconst 1, 1) := by decide +kernel
theorem d_law_136 : decode M_law.2.1 136 = .ok (.iadd, 1) := by decide +kernel
theorem d_law_137 : decode M_law.2.1 137 = .ok (.iaload, 1) := by decide +kernel
theorem d_law_138 : decode M_law.2.1 138 = .ok (.i2l, 1) := by decide +kernel
theorem d_law_139 : decode M_law.2.1 139 = .ok (.bipush 32, 2) := by decide +kernel
theorem d_law_141 : decode M_law.2.1 141 = .ok (.lshl, 1) := by decide +kernel
theorem d_law_142 : decode M_law.2.1 142 = .ok (.aload_n 0, 1) := by decide +kernel
theorem d_law_143 : decode M_law.2.1 143 = .ok (.iload_n 3, 1) := by decide +kernel
theorem d_law_144 : decode M_law.2.1 144 = .ok (.iconst 2, 1) := by decide +kernel
theorem d_law_145 : decode M_law.2.1 145 = .ok (.iadd, 1) := by decide +kernel
theorem d_law_146 : decode M_law.2.1 146 = .ok (.iaload, 1) := by decide +kernel
theorem d_law_147 : decode M_law.2.1 147 = .ok (.i2l, 1) := by decide +kernel
theorem d_law_148 : decode M_law.2.1 148 = .ok (.ldc2_w 13, 3) := by decide +kernel
theorem d_law_151 : decode M_law.2.1 151 = .ok (.land, 1) := by decide +kernel
theorem d_law_152 : decode M_law.2.1 152 = .ok (.lor, 1) := by decide +kernel
theorem d_law_153 : decode M_law.2.1 153 = .ok (.aload_n 0, 1) := by decide +kernel
theorem d_law_154 : decode M_law.2.1 154 = .ok (.iload_n 3, 1) := by decide +kernel
theorem d_law_155 : decode M_law.2.1 155 = .ok (.iconst 3, 1) := by decide +kernel
theorem d_law_156 : decode M_law.2.1 156 = .ok (.iadd, 1) := by decide +kernel
theorem d_law_157 : decode M_law.2.1 157 = .ok (.iaload, 1) := by decide +kernel
theorem d_law_158 : decode M_law.2.1 158 = .ok (.invokevirtual 15, 3) := by decide +kernel
theorem d_law_161 : decode M_law.2.1 161 = .ok (.aload_n 2, 1) := by decide +kernel
theorem d_law_162 : decode M_law.2.1 162 = .ok (.aload_n 0, 1) := by decide +kernel
theorem d_law_163 : decode M_law.2.1 163 = .ok (.iload_n 3, 1) := by decide +kernel
theorem d_law_164 : decode M_law.2.1 164 = .ok (.iconst 1, 1) := by decide +kernel
theorem d_law_165 : decode M_law.2.1 165 = .ok (.iadd, 1) := by decide +kernel
theorem d_law_166 : decode M_law.2.1 166 = .ok (.iaload, 1) := by decide +kernel
theorem d_law_167 : decode M_law.2.1 167 = .ok (.i2l, 1) := by decide +kernel
theorem d_law_168 : decode M_law.2.1 168 = .ok (.bipush 32, 2) := by decide +kernel
theorem d_law_170 : decode M_law.2.1 170 = .ok (.lshl, 1) := by decide +kernel
theorem d_law_171 : decode M_law.2.1 171 = .ok (.aload_n 0, 1) := by decide +kernel
theorem d_law_172 : decode M_law.2.1 172 = .ok (.iload_n 3, 1) := by decide +kernel
theorem d_law_173 : decode M_law.2.1 173 = .ok (.iconst 2, 1) := by decide +kernel
theorem d_law_174 : decode M_law.2.1 174 = .ok (.iadd, 1) := by decide +kernel
theorem d_law_175 : decode M_law.2.1 175 = .ok (.iaload, 1) := by decide +kernel
theorem d_law_176 : decode M_law.2.1 176 = .ok (.i2l, 1) := by decide +kernel
theorem d_law_177 : decode M_law.2.1 177 = .ok (.ldc2_w 13, 3) := by decide +kernel
theorem d_law_180 : decode M_law.2.1 180 = .ok (.land, 1) := by decide +kernel
theorem d_law_181 : decode M_law.2.1 181 = .ok (.lor, 1) := by decide +kernel
theorem d_law_182 : decode M_law.2.1 182 = .ok (.aload_n 0, 1) := by decide +kernel
theorem d_law_183 : decode M_law.2.1 183 = .ok (.iload_n 3, 1) := by decide +kernel
theorem d_law_184 : decode M_law.2.1 184 = .ok (.iconst 3, 1) := by decide +kernel
theorem d_law_185 : decode M_law.2.1 185 = .ok (.iadd, 1) := by decide +kernel
theorem d_law_186 : decode M_law.2.1 186 = .ok (.iaload, 1) := by decide +kernel
theorem d_law_187 : decode M_law.2.1 187 = .ok (.invokevirtual 19, 3) := by decide +kernel
theorem d_law_190 : decode M_law.2.1 190 = .ok (.if_icmp .eq 455, 3) := by decide +kernel
theorem d_law_193 : decode M_law.2.1 193 = .ok (.iconst 0, 1) := by decide +kernel
theorem d_law_194 : decode M_law.2.1 194 = .ok (.ireturn, 1) := by decide +kernel
theorem d_law_195 : decode M_law.2.1 195 = .ok (.aload_n 1, 1) := by decide +kernel
theorem d_law_196 : decode M_law.2.1 196 = .ok (.invokevirtual 20, 3) := by decide +kernel
theorem d_law_199 : decode M_law.2.1 199 = .ok (.aload_n 2, 1) := by decide +kernel
theorem d_law_200 : decode M_law.2.1 200 = .ok (.invokevirtual 24, 3) := by decide +kernel
theorem d_law_203 : decode M_law.2.1 203 = .ok (.if_icmp .eq 442, 3) := by decide +kernel
theorem d_law_206 : decode M_law.2.1 206 = .ok (.iconst 0, 1) := by decide +kernel
theorem d_law_207 : decode M_law.2.1 207 = .ok (.ireturn, 1) := by decide +kernel
theorem d_law_208 : decode M_law.2.1 208 = .ok (.aload_n 1, 1) := by decide +kernel
theorem d_law_209 : decode M_law.2.1 209 = .ok (.aload_n 0, 1) := by decide +kernel
theorem d_law_210 : decode M_law.2.1 210 = .ok (.iload_n 3, 1) := by decide +kernel
theorem d_law_211 : decode M_law.2.1 211 = .ok (.iconst 1, 1) := by decide +kernel
theorem d_law_212 : decode M_law.2.1 212 = .ok (.iadd, 1) := by decide +kernel
theorem d_law_213 : decode M_law.2.1 213 = .ok (.iaload, 1) := by decide +kernel
theorem d_law_214 : decode M_law.2.1 214 = .ok (.aload_n 0, 1) := by decide +kernel
theorem d_law_215 : decode M_law.2.1 215 = .ok (.iload_n 3, 1) := by decide +kernel
theorem d_law_216 : decode M_law.2.1 216 = .ok (.iconst 2, 1) := by decide +kernel
theorem d_law_217 : decode M_law.2.1 217 = .ok (.iadd, 1) := by decide +kernel
theorem d_law_218 : decode M_law.2.1 218 = .ok (.iaload, 1) := by decide +kernel
theorem d_law_219 : decode M_law.2.1 219 = .ok (.invokevirtual 25, 3) := by decide +kernel
theorem d_law_222 : decode M_law.2.1 222 = .ok (.aload_n 2, 1) := by decide +kernel
theorem d_law_223 : decode M_law.2.1 223 = .ok (.aload_n 0, 1) := by decide +kernel
theorem d_law_224 : decode M_law.2.1 224 = .ok (.iload_n 3, 1) := by decide +kernel
theorem d_law_225 : decode M_law.2.1 225 = .ok (.iconst 1, 1) := by decide +kernel
theorem d_law_226 : decode M_law.2.1 226 = .ok (.iadd, 1) := by decide +kernel
theorem d_law_227 : decode M_law.2.1 227 = .ok (.iaload, 1) := by decide +kernel
theorem d_law_228 : decode M_law.2.1 228 = .ok (.aload_n 0, 1) := by decide +kernel
theorem d_law_229 : decode M_law.2.1 229 = .ok (.iload_n 3, 1) := by decide +kernel
theorem d_law_230 : decode M_law.2.1 230 = .ok (.iconst 2, 1) := by decide +kernel
theorem d_law_231 : decode M_law.2.1 231 = .ok (.iadd, 1) := by decide +kernel
theorem d_law_232 : decode M_law.2.1 232 = .ok (.iaload, 1) := by decide +kernel
theorem d_law_233 : decode M_law.2.1 233 = .ok (.invokevirtual 29, 3) := by decide +kernel
theorem d_law_236 : decode M_law.2.1 236 = .ok (.if_icmp .eq 409, 3) := by decide +kernel
theorem d_law_239 : decode M_law.2.1 239 = .ok (.iconst 0, 1) := by decide +kernel
theorem d_law_240 : decode M_law.2.1 240 = .ok (.ireturn, 1) := by decide +kernel
theorem d_law_241 : decode M_law.2.1 241 = .ok (.aload_n 1, 1) := by decide +kernel
theorem d_law_242 : decode M_law.2.1 242 = .ok (.invokevirtual 30, 3) := by decide +kernel
theorem d_law_245 : decode M_law.2.1 245 = .ok (.aload_n 2, 1) := by decide +kernel
theorem d_law_246 : decode M_law.2.1 246 = .ok (.invokevirtual 33, 3) := by decide +kernel
theorem d_law_249 : decode M_law.2.1 249 = .ok (.if_icmp .eq 396, 3) := by decide +kernel
theorem d_law_252 : decode M_law.2.1 252 = .ok (.iconst 0, 1) := by decide +kernel
theorem d_law_253 : decode M_law.2.1 253 = .ok (.ireturn, 1) := by decide +kernel
theorem d_law_254 : decode M_law.2.1 254 = .ok (.aload_n 1, 1) := by decide +kernel
theorem d_law_255 : decode M_law.2.1 255 = .ok (.aload_n 0, 1) := by decide +kernel
theorem d_law_256 : decode M_law.2.1 256 = .ok (.iload_n 3, 1) := by decide +kernel
theorem d_law_257 : decode M_law.2.1 257 = .ok (.iconst 1, 1) := by decide +kernel
theorem d_law_258 : decode M_law.2.1 258 = .ok (.iadd, 1) := by decide +kernel
theorem d_law_259 : decode M_law.2.1 259 = .ok (.iaload, 1) := by decide +kernel
theorem d_law_260 : decode M_law.2.1 260 = .ok (.aload_n 0, 1) := by decide +kernel
theorem d_law_261 : decode M_law.2.1 261 = .ok (.iload_n 3, 1) := by decide +kernel
theorem d_law_262 : decode M_law.2.1 262 = .ok (.iconst 2, 1) := by decide +kernel
theorem d_law_263 : decode M_law.2.1 263 = .ok (.iadd, 1) := by decide +kernel
theorem d_law_264 : decode M_law.2.1 264 = .ok (.iaload, 1) := by decide +kernel
theorem d_law_265 : decode M_law.2.1 265 = .ok (.aload_n 0, 1) := by decide +kernel
theorem d_law_266 : decode M_law.2.1 266 = .ok (.iload_n 3, 1) := by decide +kernel
theorem d_law_267 : decode M_law.2.1 267 = .ok (.iconst 3, 1) := by decide +kernel
theorem d_law_268 : decode M_law.2.1 268 = .ok (.iadd, 1) := by decide +kernel
theorem d_law_269 : decode M_law.2.1 269 = .ok (.iaload, 1) := by decide +kernel
theorem d_law_270 : decode M_law.2.1 270 = .ok (.invokevirtual 34, 3) := by decide +kernel
theorem d_law_273 : decode M_law.2.1 273 = .ok (.aload_n 2, 1) := by decide +kernel
theorem d_law_274 : decode M_law.2.1 274 = .ok (.aload_n 0, 1) := by decide +kernel
theorem d_law_275 : decode M_law.2.1 275 = .ok (.iload_n 3, 1) := by decide +kernel
theorem d_law_276 : decode M_law.2.1 276 = .ok (.iconst 1, 1) := by decide +kernel
theorem d_law_277 : decode M_law.2.1 277 = .ok (.iadd, 1) := by decide +kernel
theorem d_law_278 : decode M_law.2.1 278 = .ok (.iaload, 1) := by decide +kernel
theorem d_law_279 : decode M_law.2.1 279 = .ok (.aload_n 0, 1) := by decide +kernel
theorem d_law_280 : decode M_law.2.1 280 = .ok (.iload_n 3, 1) := by decide +kernel
theorem d_law_281 : decode M_law.2.1 281 = .ok (.iconst 2, 1) := by decide +kernel
theorem d_law_282 : decode M_law.2.1 282 = .ok (.iadd, 1) := by decide +kernel
theorem d_law_283 : decode M_law.2.1 283 = .ok (.iaload, 1) := by decide +kernel
theorem d_law_284 : decode M_law.2.1 284 = .ok (.aload_n 0, 1) := by decide +kernel
theorem d_law_285 : decode M_law.2.1 285 = .ok (.iload_n 3, 1) := by decide +kernel
theorem d_law_286 : decode M_law.2.1 286 = .ok (.iconst 3, 1) := by decide +kernel
theorem d_law_287 : decode M_law.2.1 287 = .ok (.iadd, 1) := by decide +kernel
theorem d_law_288 : decode M_law.2.1 288 = .ok (.iaload, 1) := by decide +kernel
theorem d_law_289 : decode M_law.2.1 289 = .ok (.invokevirtual 38, 3) := by decide +kernel
theorem d_law_292 : decode M_law.2.1 292 = .ok (.if_icmp .eq 353, 3) := by decide +kernel
theorem d_law_295 : decode M_law.2.1 295 = .ok (.iconst 0, 1) := by decide +kernel
theorem d_law_296 : decode M_law.2.1 296 = .ok (.ireturn, 1) := by decide +kernel
theorem d_law_297 : decode M_law.2.1 297 = .ok (.aload_n 1, 1) := by decide +kernel
theorem d_law_298 : decode M_law.2.1 298 = .ok (.aload_n 0, 1) := by decide +kernel
theorem d_law_299 : decode M_law.2.1 299 = .ok (.iload_n 3, 1) := by decide +kernel
theorem d_law_300 : decode M_law.2.1 300 = .ok (.iconst 1, 1) := by decide +kernel
theorem d_law_301 : decode M_law.2.1 301 = .ok (.iadd, 1) := by decide +kernel
theorem d_law_302 : decode M_law.2.1 302 = .ok (.iaload, 1) := by decide +kernel
theorem d_law_303 : decode M_law.2.1 303 = .ok (.aload_n 0, 1) := by decide +kernel
theorem d_law_304 : decode M_law.2.1 304 = .ok (.iload_n 3, 1) := by decide +kernel
theorem d_law_305 : decode M_law.2.1 305 = .ok (.iconst 2, 1) := by decide +kernel
theorem d_law_306 : decode M_law.2.1 306 = .ok (.iadd, 1) := by decide +kernel
theorem d_law_307 : decode M_law.2.1 307 = .ok (.iaload, 1) := by decide +kernel
theorem d_law_308 : decode M_law.2.1 308 = .ok (.invokevirtual 39, 3) := by decide +kernel
theorem d_law_311 : decode M_law.2.1 311 = .ok (.aload_n 2, 1) := by decide +kernel
theorem d_law_312 : decode M_law.2.1 312 = .ok (.aload_n 0, 1) := by decide +kernel
theorem d_law_313 : decode M_law.2.1 313 = .ok (.iload_n 3, 1) := by decide +kernel
theorem d_law_314 : decode M_law.2.1 314 = .ok (.iconst 1, 1) := by decide +kernel
theorem d_law_315 : decode M_law.2.1 315 = .ok (.iadd, 1) := by decide +kernel
theorem d_law_316 : decode M_law.2.1 316 = .ok (.iaload, 1) := by decide +kernel
theorem d_law_317 : decode M_law.2.1 317 = .ok (.aload_n 0, 1) := by decide +kernel
theorem d_law_318 : decode M_law.2.1 318 = .ok (.iload_n 3, 1) := by decide +kernel
theorem d_law_319 : decode M_law.2.1 319 = .ok (.iconst 2, 1) := by decide +kernel
theorem d_law_320 : decode M_law.2.1 320 = .ok (.iadd, 1) := by decide +kernel
theorem d_law_321 : decode M_law.2.1 321 = .ok (.iaload, 1) := by decide +kernel
theorem d_law_322 : decode M_law.2.1 322 = .ok (.invokevirtual 43, 3) := by decide +kernel
theorem d_law_325 : decode M_law.2.1 325 = .ok (.if_icmp .eq 320, 3) := by decide +kernel
theorem d_law_328 : decode M_law.2.1 328 = .ok (.iconst 0, 1) := by decide +kernel
theorem d_law_329 : decode M_law.2.1 329 = .ok (.ireturn, 1) := by decide +kernel
theorem d_law_330 : decode M_law.2.1 330 = .ok (.aload_n 1, 1) := by decide +kernel
theorem d_law_331 : decode M_law.2.1 331 = .ok (.aload_n 0, 1) := by decide +kernel
theorem d_law_332 : decode M_law.2.1 332 = .ok (.iload_n 3, 1) := by decide +kernel
theorem d_law_333 : decode M_law.2.1 333 = .ok (.iconst 1, 1) := by decide +kernel
theorem d_law_334 : decode M_law.2.1 334 = .ok (.iadd, 1) := by decide +kernel
theorem d_law_335 : decode M_law.2.1 335 = .ok (.iaload, 1) := by decide +kernel
theorem d_law_336 : decode M_law.2.1 336 = .ok (.invokevirtual 44, 3) := by decide +kernel
theorem d_law_339 : decode M_law.2.1 339 = .ok (.aload_n 2, 1) := by decide +kernel
theorem d_law_340 : decode M_law.2.1 340 = .ok (.aload_n 0, 1) := by decide +kernel
theorem d_law_341 : decode M_law.2.1 341 = .ok (.iload_n 3, 1) := by decide +kernel
theorem d_law_342 : decode M_law.2.1 342 = .ok (.iconst 1, 1) := by decide +kernel
theorem d_law_343 : decode M_law.2.1 343 = .ok (.iadd, 1) := by decide +kernel
theorem d_law_344 : decode M_law.2.1 344 = .ok (.iaload, 1) := by decide +kernel
theorem d_law_345 : decode M_law.2.1 345 = .ok (.invokevirtual 48, 3) := by decide +kernel
theorem d_law_348 : decode M_law.2.1 348 = .ok (.if_icmp .eq 297, 3) := by decide +kernel
theorem d_law_351 : decode M_law.2.1 351 = .ok (.iconst 0, 1) := by decide +kernel
theorem d_law_352 : decode M_law.2.1 352 = .ok (.ireturn, 1) := by decide +kernel
theorem d_law_353 : decode M_law.2.1 353 = .ok (.aload_n 1, 1) := by decide +kernel
theorem d_law_354 : decode M_law.2.1 354 = .ok (.invokevirtual 49, 3) := by decide +kernel
theorem d_law_357 : decode M_law.2.1 357 = .ok (.aload_n 2, 1) := by decide +kernel
theorem d_law_358 : decode M_law.2.1 358 = .ok (.invokevirtual 52, 3) := by decide +kernel
theorem d_law_361 : decode M_law.2.1 361 = .ok (.if_icmp .eq 284, 3) := by decide +kernel
theorem d_law_364 : decode M_law.2.1 364 = .ok (.iconst 0, 1) := by decide +kernel
theorem d_law_365 : decode M_law.2.1 365 = .ok (.ireturn, 1) := by decide +kernel
theorem d_law_366 : decode M_law.2.1 366 = .ok (.aload_n 1, 1) := by decide +kernel
theorem d_law_367 : decode M_law.2.1 367 = .ok (.invokevirtual 53, 3) := by decide +kernel
theorem d_law_370 : decode M_law.2.1 370 = .ok (.aload_n 2, 1) := by decide +kernel
theorem d_law_371 : decode M_law.2.1 371 = .ok (.invokevirtual 56, 3) := by decide +kernel
theorem d_law_374 : decode M_law.2.1 374 = .ok (.if_icmp .eq 271, 3) := by decide +kernel
theorem d_law_377 : decode M_law.2.1 377 = .ok (.iconst 0, 1) := by decide +kernel
theorem d_law_378 : decode M_law.2.1 378 = .ok (.ireturn, 1) := by decide +kernel
theorem d_law_379 : decode M_law.2.1 379 = .ok (.aload_n 1, 1) := by decide +kernel
theorem d_law_380 : decode M_law.2.1 380 = .ok (.aload_n 0, 1) := by decide +kernel
theorem d_law_381 : decode M_law.2.1 381 = .ok (.iload_n 3, 1) := by decide +kernel
theorem d_law_382 : decode M_law.2.1 382 = .ok (.iconst 1, 1) := by decide +kernel
theorem d_law_383 : decode M_law.2.1 383 = .ok (.iadd, 1) := by decide +kernel
theorem d_law_384 : decode M_law.2.1 384 = .ok (.iaload, 1) := by decide +kernel
theorem d_law_385 : decode M_law.2.1 385 = .ok (.invokevirtual 57, 3) := by decide +kernel
theorem d_law_388 : decode M_law.2.1 388 = .ok (.aload_n 2, 1) := by decide +kernel
theorem d_law_389 : decode M_law.2.1 389 = .ok (.aload_n 0, 1) := by decide +kernel
theorem d_law_390 : decode M_law.2.1 390 = .ok (.iload_n 3, 1) := by decide +kernel
theorem d_law_391 : decode M_law.2.1 391 = .ok (.iconst 1, 1) := by decide +kernel
theorem d_law_392 : decode M_law.2.1 392 = .ok (.iadd, 1) := by decide +kernel
theorem d_law_393 : decode M_law.2.1 393 = .ok (.iaload, 1) := by decide +kernel
theorem d_law_394 : decode M_law.2.1 394 = .ok (.invokevirtual 60, 3) := by decide +kernel
theorem d_law_397 : decode M_law.2.1 397 = .ok (.if_icmp .eq 248, 3) := by decide +kernel
theorem d_law_400 : decode M_law.2.1 400 = .ok (.iconst 0, 1) := by decide +kernel
theorem d_law_401 : decode M_law.2.1 401 = .ok (.ireturn, 1) := by decide +kernel
theorem d_law_402 : decode M_law.2.1 402 = .ok (.aload_n 1, 1) := by decide +kernel
theorem d_law_403 : decode M_law.2.1 403 = .ok (.aload_n 0, 1) := by decide +kernel
theorem d_law_404 : decode M_law.2.1 404 = .ok (.iload_n 3, 1) := by decide +kernel
theorem d_law_405 : decode M_law.2.1 405 = .ok (.iconst 1, 1) := by decide +kernel
theorem d_law_406 : decode M_law.2.1 406 = .ok (.iadd, 1) := by decide +kernel
theorem d_law_407 : decode M_law.2.1 407 = .ok (.iaload, 1) := by decide +kernel
theorem d_law_408 : decode M_law.2.1 408 = .ok (.invokevirtual 61, 3) := by decide +kernel
theorem d_law_411 : decode M_law.2.1 411 = .ok (.aload_n 2, 1) := by decide +kernel
theorem d_law_412 : decode M_law.2.1 412 = .ok (.aload_n 0, 1) := by decide +kernel
theorem d_law_413 : decode M_law.2.1 413 = .ok (.iload_n 3, 1) := by decide +kernel
theorem d_law_414 : decode M_law.2.1 414 = .ok (.iconst 1, 1) := by decide +kernel
theorem d_law_415 : decode M_law.2.1 415 = .ok (.iadd, 1) := by decide +kernel
theorem d_law_416 : decode M_law.2.1 416 = .ok (.iaload, 1) := by decide +kernel
theorem d_law_417 : decode M_law.2.1 417 = .ok (.invokevirtual 64, 3) := by decide +kernel
theorem d_law_420 : decode M_law.2.1 420 = .ok (.if_icmp .eq 225, 3) := by decide +kernel
theorem d_law_423 : decode M_law.2.1 423 = .ok (.iconst 0, 1) := by decide +kernel
theorem d_law_424 : decode M_law.2.1 424 = .ok (.ireturn, 1) := by decide +kernel
theorem d_law_425 : decode M_law.2.1 425 = .ok (.aload_n 1, 1) := by decide +kernel
theorem d_law_426 : decode M_law.2.1 426 = .ok (.aload_n 0, 1) := by decide +kernel
theorem d_law_427 : decode M_law.2.1 427 = .ok (.iload_n 3, 1) := by decide +kernel
theorem d_law_428 : decode M_law.2.1 428 = .ok (.iconst 1, 1) := by decide +kernel
theorem d_law_429 : decode M_law.2.1 429 = .ok (.iadd, 1) := by decide +kernel
theorem d_law_430 : decode M_law.2.1 430 = .ok (.iaload, 1) := by decide +kernel
theorem d_law_431 : decode M_law.2.1 431 = .ok (.aload_n 0, 1) := by decide +kernel
theorem d_law_432 : decode M_law.2.1 432 = .ok (.iload_n 3, 1) := by decide +kernel
theorem d_law_433 : decode M_law.2.1 433 = .ok (.iconst 2, 1) := by decide +kernel
theorem d_law_434 : decode M_law.2.1 434 = .ok (.iadd, 1) := by decide +kernel
theorem d_law_435 : decode M_law.2.1 435 = .ok (.iaload, 1) := by decide +kernel
theorem d_law_436 : decode M_law.2.1 436 = .ok (.invokevirtual 65, 3) := by decide +kernel
theorem d_law_439 : decode M_law.2.1 439 = .ok (.aload_n 2, 1) := by decide +kernel
theorem d_law_440 : decode M_law.2.1 440 = .ok (.aload_n 0, 1) := by decide +kernel
theorem d_law_441 : decode M_law.2.1 441 = .ok (.iload_n 3, 1) := by decide +kernel
theorem d_law_442 : decode M_law.2.1 442 = .ok (.iconst 1, 1) := by decide +kernel
theorem d_law_443 : decode M_law.2.1 443 = .ok (.iadd, 1) := by decide +kernel
theorem d_law_444 : decode M_law.2.1 444 = .ok (.iaload, 1) := by decide +kernel
theorem d_law_445 : decode M_law.2.1 445 = .ok (.aload_n 0, 1) := by decide +kernel
theorem d_law_446 : decode M_law.2.1 446 = .ok (.iload_n 3, 1) := by decide +kernel
theorem d_law_447 : decode M_law.2.1 447 = .ok (.iconst 2, 1) := by decide +kernel
theorem d_law_448 : decode M_law.2.1 448 = .ok (.iadd, 1) := by decide +kernel
theorem d_law_449 : decode M_law.2.1 449 = .ok (.iaload, 1) := by decide +kernel
theorem d_law_450 : decode M_law.2.1 450 = .ok (.invokevirtual 68, 3) := by decide +kernel
theorem d_law_453 : decode M_law.2.1 453 = .ok (.if_icmp .eq 192, 3) := by decide +kernel
theorem d_law_456 : decode M_law.2.1 456 = .ok (.iconst 0, 1) := by decide +kernel
theorem d_law_457 : decode M_law.2.1 457 = .ok (.ireturn, 1) := by decide +kernel
theorem d_law_458 : decode M_law.2.1 458 = .ok (.aload_n 1, 1) := by decide +kernel
theorem d_law_459 : decode M_law.2.1 459 = .ok (.aload_n 0, 1) := by decide +kernel
theorem d_law_460 : decode M_law.2.1 460 = .ok (.iload_n 3, 1) := by decide +kernel
theorem d_law_461 : decode M_law.2.1 461 = .ok (.iconst 1, 1) := by decide +kernel
theorem d_law_462 : decode M_law.2.1 462 = .ok (.iadd, 1) := by decide +kernel
theorem d_law_463 : decode M_law.2.1 463 = .ok (.iaload, 1) := by decide +kernel
theorem d_law_464 : decode M_law.2.1 464 = .ok (.aload_n 0, 1) := by decide +kernel
theorem d_law_465 : decode M_law.2.1 465 = .ok (.iload_n 3, 1) := by decide +kernel
theorem d_law_466 : decode M_law.2.1 466 = .ok (.iconst 2, 1) := by decide +kernel
theorem d_law_467 : decode M_law.2.1 467 = .ok (.iadd, 1) := by decide +kernel
theorem d_law_468 : decode M_law.2.1 468 = .ok (.iaload, 1) := by decide +kernel
theorem d_law_469 : decode M_law.2.1 469 = .ok (.invokevirtual 69, 3) := by decide +kernel
theorem d_law_472 : decode M_law.2.1 472 = .ok (.aload_n 2, 1) := by decide +kernel
theorem d_law_473 : decode M_law.2.1 473 = .ok (.aload_n 0, 1) := by decide +kernel
theorem d_law_474 : decode M_law.2.1 474 = .ok (.iload_n 3, 1) := by decide +kernel
theorem d_law_475 : decode M_law.2.1 475 = .ok (.iconst 1, 1) := by decide +kernel
theorem d_law_476 : decode M_law.2.1 476 = .ok (.iadd, 1) := by decide +kernel
theorem d_law_477 : decode M_law.2.1 477 = .ok (.iaload, 1) := by decide +kernel
theorem d_law_478 : decode M_law.2.1 478 = .ok (.aload_n 0, 1) := by decide +kernel
theorem d_law_479 : decode M_law.2.1 479 = .ok (.iload_n 3, 1) := by decide +kernel
theorem d_law_480 : decode M_law.2.1 480 = .ok (.iconst 2, 1) := by decide +kernel
theorem d_law_481 : decode M_law.2.1 481 = .ok (.iadd, 1) := by decide +kernel
theorem d_law_482 : decode M_law.2.1 482 = .ok (.iaload, 1) := by decide +kernel
theorem d_law_483 : decode M_law.2.1 483 = .ok (.invokevirtual 72, 3) := by decide +kernel
theorem d_law_486 : decode M_law.2.1 486 = .ok (.if_icmp .eq 159, 3) := by decide +kernel
theorem d_law_489 : decode M_law.2.1 489 = .ok (.iconst 0, 1) := by decide +kernel
theorem d_law_490 : decode M_law.2.1 490 = .ok (.ireturn, 1) := by decide +kernel
theorem d_law_491 : decode M_law.2.1 491 = .ok (.aload_n 1, 1) := by decide +kernel
theorem d_law_492 : decode M_law.2.1 492 = .ok (.aload_n 0, 1) := by decide +kernel
theorem d_law_493 : decode M_law.2.1 493 = .ok (.iload_n 3, 1) := by decide +kernel
theorem d_law_494 : decode M_law.2.1 494 = .ok (.iconst 1, 1) := by decide +kernel
theorem d_law_495 : decode M_law.2.1 495 = .ok (.iadd, 1) := by decide +kernel
theorem d_law_496 : decode M_law.2.1 496 = .ok (.iaload, 1) := by decide +kernel
theorem d_law_497 : decode M_law.2.1 497 = .ok (.invokevirtual 73, 3) := by decide +kernel
theorem d_law_500 : decode M_law.2.1 500 = .ok (.aload_n 2, 1) := by decide +kernel
theorem d_law_501 : decode M_law.2.1 501 = .ok (.aload_n 0, 1) := by decide +kernel
theorem d_law_502 : decode M_law.2.1 502 = .ok (.iload_n 3, 1) := by decide +kernel
theorem d_law_503 : decode M_law.2.1 503 = .ok (.iconst 1, 1) := by decide +kernel
theorem d_law_504 : decode M_law.2.1 504 = .ok (.iadd, 1) := by decide +kernel
theorem d_law_505 : decode M_law.2.1 505 = .ok (.iaload, 1) := by decide +kernel
theorem d_law_506 : decode M_law.2.1 506 = .ok (.invokevirtual 77, 3) := by decide +kernel
theorem d_law_509 : decode M_law.2.1 509 = .ok (.if_icmp .eq 136, 3) := by decide +kernel
theorem d_law_512 : decode M_law.2.1 512 = .ok (.iconst 0, 1) := by decide +kernel
theorem d_law_513 : decode M_law.2.1 513 = .ok (.ireturn, 1) := by decide +kernel
theorem d_law_514 : decode M_law.2.1 514 = .ok (.aload_n 1, 1) := by decide +kernel
theorem d_law_515 : decode M_law.2.1 515 = .ok (.invokevirtual 78, 3) := by decide +kernel
theorem d_law_518 : decode M_law.2.1 518 = .ok (.aload_n 2, 1) := by decide +kernel
theorem d_law_519 : decode M_law.2.1 519 = .ok (.invokevirtual 81, 3) := by decide +kernel
theorem d_law_522 : decode M_law.2.1 522 = .ok (.if_icmp .eq 123, 3) := by decide +kernel
theorem d_law_525 : decode M_law.2.1 525 = .ok (.iconst 0, 1) := by decide +kernel
theorem d_law_526 : decode M_law.2.1 526 = .ok (.ireturn, 1) := by decide +kernel
theorem d_law_527 : decode M_law.2.1 527 = .ok (.aload_n 1, 1) := by decide +kernel
theorem d_law_528 : decode M_law.2.1 528 = .ok (.invokevirtual 82, 3) := by decide +kernel
theorem d_law_531 : decode M_law.2.1 531 = .ok (.aload_n 2, 1) := by decide +kernel
theorem d_law_532 : decode M_law.2.1 532 = .ok (.invokevirtual 85, 3) := by decide +kernel
theorem d_law_535 : decode M_law.2.1 535 = .ok (.if_icmp .eq 110, 3) := by decide +kernel
theorem d_law_538 : decode M_law.2.1 538 = .ok (.iconst 0, 1) := by decide +kernel
theorem d_law_539 : decode M_law.2.1 539 = .ok (.ireturn, 1) := by decide +kernel
theorem d_law_540 : decode M_law.2.1 540 = .ok (.aload_n 1, 1) := by decide +kernel
theorem d_law_541 : decode M_law.2.1 541 = .ok (.aload_n 0, 1) := by decide +kernel
theorem d_law_542 : decode M_law.2.1 542 = .ok (.iload_n 3, 1) := by decide +kernel
theorem d_law_543 : decode M_law.2.1 543 = .ok (.iconst 1, 1) := by decide +kernel
theorem d_law_544 : decode M_law.2.1 544 = .ok (.iadd, 1) := by decide +kernel
theorem d_law_545 : decode M_law.2.1 545 = .ok (.iaload, 1) := by decide +kernel
theorem d_law_546 : decode M_law.2.1 546 = .ok (.invokevirtual 86, 3) := by decide +kernel
theorem d_law_549 : decode M_law.2.1 549 = .ok (.aload_n 2, 1) := by decide +kernel
theorem d_law_550 : decode M_law.2.1 550 = .ok (.aload_n 0, 1) := by decide +kernel
theorem d_law_551 : decode M_law.2.1 551 = .ok (.iload_n 3, 1) := by decide +kernel
theorem d_law_552 : decode M_law.2.1 552 = .ok (.iconst 1, 1) := by decide +kernel
theorem d_law_553 : decode M_law.2.1 553 = .ok (.iadd, 1) := by decide +kernel
theorem d_law_554 : decode M_law.2.1 554 = .ok (.iaload, 1) := by decide +kernel
theorem d_law_555 : decode M_law.2.1 555 = .ok (.invokevirtual 89, 3) := by decide +kernel
theorem d_law_558 : decode M_law.2.1 558 = .ok (.if_icmp .eq 87, 3) := by decide +kernel
theorem d_law_561 : decode M_law.2.1 561 = .ok (.iconst 0, 1) := by decide +kernel
theorem d_law_562 : decode M_law.2.1 562 = .ok (.ireturn, 1) := by decide +kernel
theorem d_law_563 : decode M_law.2.1 563 = .ok (.aload_n 1, 1) := by decide +kernel
theorem d_law_564 : decode M_law.2.1 564 = .ok (.aload_n 0, 1) := by decide +kernel
theorem d_law_565 : decode M_law.2.1 565 = .ok (.iload_n 3, 1) := by decide +kernel
theorem d_law_566 : decode M_law.2.1 566 = .ok (.iconst 1, 1) := by decide +kernel
theorem d_law_567 : decode M_law.2.1 567 = .ok (.iadd, 1) := by decide +kernel
theorem d_law_568 : decode M_law.2.1 568 = .ok (.iaload, 1) := by decide +kernel
theorem d_law_569 : decode M_law.2.1 569 = .ok (.aload_n 0, 1) := by decide +kernel
theorem d_law_570 : decode M_law.2.1 570 = .ok (.iload_n 3, 1) := by decide +kernel
theorem d_law_571 : decode M_law.2.1 571 = .ok (.iconst 2, 1) := by decide +kernel
theorem d_law_572 : decode M_law.2.1 572 = .ok (.iadd, 1) := by decide +kernel
theorem d_law_573 : decode M_law.2.1 573 = .ok (.iaload, 1) := by decide +kernel
theorem d_law_574 : decode M_law.2.1 574 = .ok (.invokevirtual 90, 3) := by decide +kernel
theorem d_law_577 : decode M_law.2.1 577 = .ok (.aload_n 2, 1) := by decide +kernel
theorem d_law_578 : decode M_law.2.1 578 = .ok (.aload_n 0, 1) := by decide +kernel
theorem d_law_579 : decode M_law.2.1 579 = .ok (.iload_n 3, 1) := by decide +kernel
theorem d_law_580 : decode M_law.2.1 580 = .ok (.iconst 1, 1) := by decide +kernel
theorem d_law_581 : decode M_law.2.1 581 = .ok (.iadd, 1) := by decide +kernel
theorem d_law_582 : decode M_law.2.1 582 = .ok (.iaload, 1) := by decide +kernel
theorem d_law_583 : decode M_law.2.1 583 = .ok (.aload_n 0, 1) := by decide +kernel
theorem d_law_584 : decode M_law.2.1 584 = .ok (.iload_n 3, 1) := by decide +kernel
theorem d_law_585 : decode M_law.2.1 585 = .ok (.iconst 2, 1) := by decide +kernel
theorem d_law_586 : decode M_law.2.1 586 = .ok (.iadd, 1) := by decide +kernel
theorem d_law_587 : decode M_law.2.1 587 = .ok (.iaload, 1) := by decide +kernel
theorem d_law_588 : decode M_law.2.1 588 = .ok (.invokevirtual 93, 3) := by decide +kernel
theorem d_law_591 : decode M_law.2.1 591 = .ok (.if_icmp .eq 54, 3) := by decide +kernel
theorem d_law_594 : decode M_law.2.1 594 = .ok (.iconst 0, 1) := by decide +kernel
theorem d_law_595 : decode M_law.2.1 595 = .ok (.ireturn, 1) := by decide +kernel
theorem d_law_596 : decode M_law.2.1 596 = .ok (.aload_n 1, 1) := by decide +kernel
theorem d_law_597 : decode M_law.2.1 597 = .ok (.aload_n 0, 1) := by decide +kernel
theorem d_law_598 : decode M_law.2.1 598 = .ok (.iload_n 3, 1) := by decide +kernel
theorem d_law_599 : decode M_law.2.1 599 = .ok (.iconst 1, 1) := by decide +kernel
theorem d_law_600 : decode M_law.2.1 600 = .ok (.iadd, 1) := by decide +kernel
theorem d_law_601 : decode M_law.2.1 601 = .ok (.iaload, 1) := by decide +kernel
theorem d_law_602 : decode M_law.2.1 602 = .ok (.invokevirtual 94, 3) := by decide +kernel
theorem d_law_605 : decode M_law.2.1 605 = .ok (.aload_n 2, 1) := by decide +kernel
theorem d_law_606 : decode M_law.2.1 606 = .ok (.aload_n 0, 1) := by decide +kernel
theorem d_law_607 : decode M_law.2.1 607 = .ok (.iload_n 3, 1) := by decide +kernel
theorem d_law_608 : decode M_law.2.1 608 = .ok (.iconst 1, 1) := by decide +kernel
theorem d_law_609 : decode M_law.2.1 609 = .ok (.iadd, 1) := by decide +kernel
theorem d_law_610 : decode M_law.2.1 610 = .ok (.iaload, 1) := by decide +kernel
theorem d_law_611 : decode M_law.2.1 611 = .ok (.invokevirtual 97, 3) := by decide +kernel
theorem d_law_614 : decode M_law.2.1 614 = .ok (.if_icmp .eq 31, 3) := by decide +kernel
theorem d_law_617 : decode M_law.2.1 617 = .ok (.iconst 0, 1) := by decide +kernel
theorem d_law_618 : decode M_law.2.1 618 = .ok (.ireturn, 1) := by decide +kernel
theorem d_law_619 : decode M_law.2.1 619 = .ok (.aload_n 1, 1) := by decide +kernel
theorem d_law_620 : decode M_law.2.1 620 = .ok (.invokevirtual 98, 3) := by decide +kernel
theorem d_law_623 : decode M_law.2.1 623 = .ok (.aload_n 2, 1) := by decide +kernel
theorem d_law_624 : decode M_law.2.1 624 = .ok (.invokevirtual 102, 3) := by decide +kernel
theorem d_law_627 : decode M_law.2.1 627 = .ok (.if_icmp .eq 18, 3) := by decide +kernel
theorem d_law_630 : decode M_law.2.1 630 = .ok (.iconst 0, 1) := by decide +kernel
theorem d_law_631 : decode M_law.2.1 631 = .ok (.ireturn, 1) := by decide +kernel
theorem d_law_632 : decode M_law.2.1 632 = .ok (.aload_n 1, 1) := by decide +kernel
theorem d_law_633 : decode M_law.2.1 633 = .ok (.invokevirtual 103, 3) := by decide +kernel
theorem d_law_636 : decode M_law.2.1 636 = .ok (.aload_n 2, 1) := by decide +kernel
theorem d_law_637 : decode M_law.2.1 637 = .ok (.invokevirtual 106, 3) := by decide +kernel
theorem d_law_640 : decode M_law.2.1 640 = .ok (.if_icmp .eq 5, 3) := by decide +kernel
theorem d_law_643 : decode M_law.2.1 643 = .ok (.iconst 0, 1) := by decide +kernel
theorem d_law_644 : decode M_law.2.1 644 = .ok (.ireturn, 1) := by decide +kernel
theorem d_law_645 : decode M_law.2.1 645 = .ok (.iinc 3 4, 3) := by decide +kernel
theorem d_law_648 : decode M_law.2.1 648 = .ok (.goto (-630), 3) := by decide +kernel
theorem d_law_651 : decode M_law.2.1 651 = .ok (.iconst 1, 1) := by decide +kernel
theorem d_law_652 : decode M_law.2.1 652 = .ok (.ireturn, 1) := by decide +kernel
def f_law (sL : Nat) (sx : Nat → Int32) (c : cM) : Prop :=
  ∃ I1 : Nat → Int32 → cM → Prop, (∃ n, I1 n 0 c) ∧ ∀ (n2 : Nat) (y5 : Int32) (c6 : cM), I1 n2 y5 c6 → (((((nI sL) - 4) < y5) → ((1 : Int32) = 1)) ∧ (¬ (((nI sL) - 4) < y5) → (vp_in y5 sL ∧ (∃ J180 : cM → Prop, (∀ (c179 : cM), J180 c179 → (∃ m, m < n2 ∧ I1 m (y5 + 4) c179)) ∧ (((Int32.toInt ((sx (Int32.toNatClampNeg y5)) &&& 31) = 0) → (vp_in (y5 + 1) sL ∧ (vp_in (y5 + 2) sL ∧ (vp_in (y5 + 3) sL ∧ (kd 18 = 0 ∧ (f_P_type 18 ((c_lshl (Int32.toInt64 (sx (Int32.toNatClampNeg (y5 + 1)))) 32) ||| ((Int32.toInt64 (sx (Int32.toNatClampNeg (y5 + 2)))) &&& 4294967295)) (sx (Int32.toNatClampNeg (y5 + 3))) c6 (fun v187 c186 => kd 176 = 7 ∧ (f_Mo_type 176 ((c_lshl (Int32.toInt64 (sx (Int32.toNatClampNeg (y5 + 1)))) 32) ||| ((Int32.toInt64 (sx (Int32.toNatClampNeg (y5 + 2)))) &&& 4294967295)) (sx (Int32.toNatClampNeg (y5 + 3))) c186 (fun v190 c189 => ((v187 = v190) → (J180 c189)) ∧ (¬ (v187 = v190) → ((0 : Int32) = 1))))))))))) ∧ ((Int32.toInt ((sx (Int32.toNatClampNeg y5)) &&& 31) = 1) → (kd 18 = 0 ∧ (f_P_blob 18 c6 (fun v194 c193 => kd 176 = 7 ∧ (f_Mo_blob 176 c193 (fun v197 c196 => ((v194 = v197) → (J180 c196)) ∧ (¬ (v194 = v197) → ((0 : Int32) = 1)))))))) ∧ ((Int32.toInt ((sx (Int32.toNatClampNeg y5)) &&& 31) = 2) → (vp_in (y5 + 1) sL ∧ (vp_in (y5 + 2) sL ∧ (kd 18 = 0 ∧ (f_P_entry 18 (sx (Int32.toNatClampNeg (y5 + 1))) (sx (Int32.toNatClampNeg (y5 + 2))) c6 (fun v203 c202 => kd 176 = 7 ∧ (f_Mo_entry 176 (sx (Int32.toNatClampNeg (y5 + 1))) (sx (Int32.toNatClampNeg (y5 + 2))) c202 (fun v206 c205 => ((v203 = v206) → (J180 c205)) ∧ (¬ (v203 = v206) → ((0 : Int32) = 1)))))))))) ∧ ((Int32.toInt ((sx (Int32.toNatClampNeg y5)) &&& 31) = 3) → (kd 18 = 0 ∧ (f_P_tree 18 c6 (fun v210 c209 => kd 176 = 7 ∧ (f_Mo_tree 176 c209 (fun v213 c212 => ((v210 = v213) → (J180 c212)) ∧ (¬ (v210 = v213) → ((0 : Int32) = 1)))))))) ∧ ((Int32.toInt ((sx (Int32.toNatClampNeg y5)) &&& 31) = 4) → (vp_in (y5 + 1) sL ∧ (vp_in (y5 + 2) sL ∧ (vp_in (y5 + 3) sL ∧ (kd 18 = 0 ∧ (f_P_commit 18 (sx (Int32.toNatClampNeg (y5 + 1))) (sx (Int32.toNatClampNeg (y5 + 2))) (sx (Int32.toNatClampNeg (y5 + 3))) c6 (fun v220 c219 => kd 176 = 7 ∧ (f_Mo_commit 176 (sx (Int32.toNatClampNeg (y5 + 1))) (sx (Int32.toNatClampNeg (y5 + 2))) (sx (Int32.toNatClampNeg (y5 + 3))) c219 (fun v223 c222 => ((v220 = v223) → (J180 c222)) ∧ (¬ (v220 = v223) → ((0 : Int32) = 1))))))))))) ∧ ((Int32.toInt ((sx (Int32.toNatClampNeg y5)) &&& 31) = 5) → (vp_in (y5 + 1) sL ∧ (vp_in (y5 + 2) sL ∧ (kd 18 = 0 ∧ (f_P_branch 18 (sx (Int32.toNatClampNeg (y5 + 1))) (sx (Int32.toNatClampNeg (y5 + 2))) c6 (fun v229 c228 => kd 176 = 7 ∧ (f_Mo_branch 176 (sx (Int32.toNatClampNeg (y5 + 1))) (sx (Int32.toNatClampNeg (y5 + 2))) c228 (fun v232 c231 => ((v229 = v232) → (J180 c231)) ∧ (¬ (v229 = v232) → ((0 : Int32) = 1)))))))))) ∧ ((Int32.toInt ((sx (Int32.toNatClampNeg y5)) &&& 31) = 6) → (vp_in (y5 + 1) sL ∧ (kd 18 = 0 ∧ (f_P_held 18 (sx (Int32.toNatClampNeg (y5 + 1))) c6 (fun v237 c236 => kd 176 = 7 ∧ (f_Mo_held 176 (sx (Int32.toNatClampNeg (y5 + 1))) c236 (fun v240 c239 => ((v237 = v240) → (J180 c239)) ∧ (¬ (v237 = v240) → ((0 : Int32) = 1))))))))) ∧ ((Int32.toInt ((sx (Int32.toNatClampNeg y5)) &&& 31) = 7) → (kd 18 = 0 ∧ (f_P_sweep 18 c6 (fun v244 c243 => kd 176 = 7 ∧ (f_Mo_sweep 176 c243 (fun v247 c246 => ((v244 = v247) → (J180 c246)) ∧ (¬ (v244 = v247) → ((0 : Int32) = 1)))))))) ∧ ((Int32.toInt ((sx (Int32.toNatClampNeg y5)) &&& 31) = 8) → (kd 18 = 0 ∧ (f_P_things 18 c6 (fun v251 c250 => kd 176 = 7 ∧ (f_Mo_things 176 c250 (fun v254 c253 => ((v251 = v254) → (J180 c253)) ∧ (¬ (v251 = v254) → ((0 : Int32) = 1)))))))) ∧ ((Int32.toInt ((sx (Int32.toNatClampNeg y5)) &&& 31) = 9) → (vp_in (y5 + 1) sL ∧ (kd 18 = 0 ∧ (f_P_kind 18 (sx (Int32.toNatClampNeg (y5 + 1))) c6 (fun v259 c258 => kd 176 = 7 ∧ (f_Mo_kind 176 (sx (Int32.toNatClampNeg (y5 + 1))) c258 (fun v262 c261 => ((v259 = v262) → (J180 c261)) ∧ (¬ (v259 = v262) → ((0 : Int32) = 1))))))))) ∧ ((Int32.toInt ((sx (Int32.toNatClampNeg y5)) &&& 31) = 10) → (vp_in (y5 + 1) sL ∧ (kd 18 = 0 ∧ (f_P_size 18 (sx (Int32.toNatClampNeg (y5 + 1))) c6 (fun v267 c266 => kd 176 = 7 ∧ (f_Mo_size 176 (sx (Int32.toNatClampNeg (y5 + 1))) c266 (fun v270 c269 => ((v267 = v270) → (J180 c269)) ∧ (¬ (v267 = v270) → ((0 : Int32) = 1))))))))) ∧ ((Int32.toInt ((sx (Int32.toNatClampNeg y5)) &&& 31) = 11) → (vp_in (y5 + 1) sL ∧ (vp_in (y5 + 2) sL ∧ (kd 18 = 0 ∧ (f_P_byteOf 18 (sx (Int32.toNatClampNeg (y5 + 1))) (sx (Int32.toNatClampNeg (y5 + 2))) c6 (fun v276 c275 => kd 176 = 7 ∧ (f_Mo_byteOf 176 (sx (Int32.toNatClampNeg (y5 + 1))) (sx (Int32.toNatClampNeg (y5 + 2))) c275 (fun v279 c278 => ((v276 = v279) → (J180 c278)) ∧ (¬ (v276 = v279) → ((0 : Int32) = 1)))))))))) ∧ ((Int32.toInt ((sx (Int32.toNatClampNeg y5)) &&& 31) = 12) → (vp_in (y5 + 1) sL ∧ (vp_in (y5 + 2) sL ∧ (kd 18 = 0 ∧ (f_P_name 18 (sx (Int32.toNatClampNeg (y5 + 1))) (sx (Int32.toNatClampNeg (y5 + 2))) c6 (fun v285 c284 => kd 176 = 7 ∧ (f_Mo_name 176 (sx (Int32.toNatClampNeg (y5 + 1))) (sx (Int32.toNatClampNeg (y5 + 2))) c284 (fun v288 c287 => ((v285 = v288) → (J180 c287)) ∧ (¬ (v285 = v288) → ((0 : Int32) = 1)))))))))) ∧ ((Int32.toInt ((sx (Int32.toNatClampNeg y5)) &&& 31) = 13) → (vp_in (y5 + 1) sL ∧ (kd 18 = 0 ∧ (f_P_reached 18 (sx (Int32.toNatClampNeg (y5 + 1))) c6 (fun v293 c292 => kd 176 = 7 ∧ (f_Mo_reached 176 (sx (Int32.toNatClampNeg (y5 + 1))) c292 (fun v296 c295 => ((v293 = v296) → (J180 c295)) ∧ (¬ (v293 = v296) → ((0 : Int32) = 1))))))))) ∧ ((Int32.toInt ((sx (Int32.toNatClampNeg y5)) &&& 31) = 14) → (kd 18 = 0 ∧ (f_P_pack 18 c6 (fun v300 c299 => kd 176 = 7 ∧ (f_Mo_pack 176 c299 (fun v303 c302 => ((v300 = v303) → (J180 c302)) ∧ (¬ (v300 = v303) → ((0 : Int32) = 1)))))))) ∧ ((Int32.toInt ((sx (Int32.toNatClampNeg y5)) &&& 31) = 15) → (kd 18 = 0 ∧ (f_P_packed 18 c6 (fun v307 c306 => kd 176 = 7 ∧ (f_Mo_packed 176 c306 (fun v310 c309 => ((v307 = v310) → (J180 c309)) ∧ (¬ (v307 = v310) → ((0 : Int32) = 1)))))))) ∧ ((Int32.toInt ((sx (Int32.toNatClampNeg y5)) &&& 31) = 16) → (vp_in (y5 + 1) sL ∧ (kd 18 = 0 ∧ (f_P_packByte 18 (sx (Int32.toNatClampNeg (y5 + 1))) c6 (fun v315 c314 => kd 176 = 7 ∧ (f_Mo_packByte 176 (sx (Int32.toNatClampNeg (y5 + 1))) c314 (fun v318 c317 => ((v315 = v318) → (J180 c317)) ∧ (¬ (v315 = v318) → ((0 : Int32) = 1))))))))) ∧ ((Int32.toInt ((sx (Int32.toNatClampNeg y5)) &&& 31) = 17) → (vp_in (y5 + 1) sL ∧ (vp_in (y5 + 2) sL ∧ (kd 18 = 0 ∧ (f_P_alter 18 (sx (Int32.toNatClampNeg (y5 + 1))) (sx (Int32.toNatClampNeg (y5 + 2))) c6 (fun v324 c323 => kd 176 = 7 ∧ (f_Mo_alter 176 (sx (Int32.toNatClampNeg (y5 + 1))) (sx (Int32.toNatClampNeg (y5 + 2))) c323 (fun v327 c326 => ((v324 = v327) → (J180 c326)) ∧ (¬ (v324 = v327) → ((0 : Int32) = 1)))))))))) ∧ ((Int32.toInt ((sx (Int32.toNatClampNeg y5)) &&& 31) = 18) → (vp_in (y5 + 1) sL ∧ (kd 18 = 0 ∧ (f_P_cut 18 (sx (Int32.toNatClampNeg (y5 + 1))) c6 (fun v332 c331 => kd 176 = 7 ∧ (f_Mo_cut 176 (sx (Int32.toNatClampNeg (y5 + 1))) c331 (fun v335 c334 => ((v332 = v335) → (J180 c334)) ∧ (¬ (v332 = v335) → ((0 : Int32) = 1))))))))) ∧ ((Int32.toInt ((sx (Int32.toNatClampNeg y5)) &&& 31) = 19) → (kd 18 = 0 ∧ (f_P_seal 18 c6 (fun v339 c338 => kd 176 = 7 ∧ (f_Mo_seal 176 c338 (fun v342 c341 => ((v339 = v342) → (J180 c341)) ∧ (¬ (v339 = v342) → ((0 : Int32) = 1)))))))) ∧ ((Int32.toInt ((sx (Int32.toNatClampNeg y5)) &&& 31) = 20) → (kd 18 = 0 ∧ (f_P_unpack 18 c6 (fun v346 c345 => kd 176 = 7 ∧ (f_Mo_unpack 176 c345 (fun v349 c348 => ((v346 = v349) → (J180 c348)) ∧ (¬ (v346 = v349) → ((0 : Int32) = 1)))))))) ∧ ((Int32.toInt ((sx (Int32.toNatClampNeg y5)) &&& 31) < 0 ∨ 20 < Int32.toInt ((sx (Int32.toNatClampNeg y5)) &&& 31)) → (J180 c6)))))))
theorem c_law {d kc ks : Nat} {Z : sk_P} {sL : Nat} {sx : Nat → Int32} {c : cM} {k n : Nat} (FX : sk_FX M_law 11 kc ks Z sL sx) (hk : k ≤ kc) (hn : n ≤ ks) (R : ∀ (w : sk_H) (pc : Nat) (lv : List (Nat × Value)), decode M_law.2.1 pc = .ok (.ireturn, 1) → Z w pc lv [.int 1] k n) (h : f_law sL sx c) : Z (wd c) 16 [(2, .ref 176), (1, .ref 18), (0, .ref 0)] [] k n := by
  have F := FX.F
  unfold f_law at h
  refine g_iconst (v := 0) F (pc := 16) d_law_16 (by decide) (g_istore_n (lv' := [(3, .int 0), (2, .ref 176), (1, .ref 18), (0, .ref 0)]) F (pc := 17) d_law_17 (by decide) rfl ?_)
  refine g_lv (lv' := [(0, .ref 0), (1, .ref 18), (2, .ref 176), (3, .int 0)]) F [3, 2, 1, 0] rfl ?_
  obtain ⟨I1, ⟨n0, h⟩, hI1⟩ := h
  have lp4 : ∀ (n2 : Nat) (y5 : Int32) (c6 : cM), I1 n2 y5 c6 → Z (wd c6) 18 [(0, .ref 0), (1, .ref 18), (2, .ref 176), (3, .int y5)] [] k n := by
    intro n2
    induction n2 using Nat.strongRecOn with
    | _ n2 ih3 =>
      intro y5 c6 h
      replace h := hI1 n2 y5 c6 h
      refine g_iload_n F (pc := 18) d_law_18 3 rfl (g_aload_n F (pc := 19) d_law_19 0 rfl (go_slen FX (pc := 20) d_law_20 (g_iconst (v := 4) F (pc := 21) d_law_21 (by decide) (g_isub F (pc := 22) d_law_22 ?_))))
      refine g_icmp_gt (tgt := 651) F (pc := 23) d_law_23 (by decide) (fun b7 => ?_) (fun b7 => ?_)
      · replace h := h.1 b7
        refine g_iconst (v := 1) F (pc := 651) d_law_651 (by decide) ?_
        rw [h]
        exact R _ _ _ d_law_652
      · replace h := h.2 b7
        refine g_aload_n F (pc := 26) d_law_26 0 rfl (g_iload_n F (pc := 27) d_law_27 3 rfl ?_)
        obtain ⟨o8, h⟩ := h
        refine go_sld FX (pc := 28) d_law_28 o8 (g_bipush (v := 31) F (pc := 29) d_law_29 (by decide) (g_iand F (pc := 31) d_law_31 ?_))
        obtain ⟨J180, hJ180, h⟩ := h
        have jn181 : ∀ (c179 : cM), J180 c179 → Z (wd c179) 645 [(0, .ref 0), (1, .ref 18), (2, .ref 176), (3, .int y5)] [] k n := by
          intro c179 h
          replace h := hJ180 c179 h
          refine g_iinc (v := (y5 + 4)) (lv' := [(3, .int (y5 + 4)), (0, .ref 0), (1, .ref 18), (2, .ref 176)]) F (pc := 645) d_law_645 3 rfl (sk_inc (by decide)) (by decide) rfl (g_goto (tgt := 18) F (pc := 648) d_law_648 (by decide) ?_)
          refine g_lv (lv' := [(0, .ref 0), (1, .ref 18), (2, .ref 176), (3, .int (y5 + 4))]) F [1, 2, 3, 0] rfl ?_
          obtain ⟨m, hm, h⟩ := h
          exact ih3 m hm _ _ h
        by_cases b9 : Int32.toInt ((sx (Int32.toNatClampNeg y5)) &&& 31) = 0
        · replace h := h.1 b9
          refine g_tab (v := 0) (tgt := 132) F (pc := 32) d_law_32 b9 (by decide) (by decide) rfl (by decide) ?_
          refine g_aload_n F (pc := 132) d_law_132 1 rfl (g_aload_n F (pc := 133) d_law_133 0 rfl (g_iload_n F (pc := 134) d_law_134 3 rfl (g_iconst (v := 1) F (pc := 135) d_law_135 (by decide) (g_iadd F (pc := 136) d_law_136 ?_))))
          obtain ⟨o182, h⟩ := h
          refine go_sld FX (pc := 137) d_law_137 o182 (g_i2l F (pc := 138) d_law_138 (g_bipush (v := 32) F (pc := 139) d_law_139 (by decide) (g_lshl F (pc := 141) d_law_141 (g_aload_n F (pc := 142) d_law_142 0 rfl (g_iload_n F (pc := 143) d_law_143 3 rfl ?_)))))
          refine g_iconst (v := 2) F (pc := 144) d_law_144 (by decide) (g_iadd F (pc := 145) d_law_145 ?_)
          obtain ⟨o183, h⟩ := h
          refine go_sld FX (pc := 146) d_law_146 o183 (g_i2l F (pc := 147) d_law_147 (g_ldc2 F (pc := 148) d_law_148 kc_Lw_13 (g_land F (pc := 151) d_law_151 (g_lor F (pc := 152) d_law_152 (g_aload_n F (pc := 153) d_law_153 0 rfl ?_)))))
          refine g_iload_n F (pc := 154) d_law_154 3 rfl (g_iconst (v := 3) F (pc := 155) d_law_155 (by decide) (g_iadd F (pc := 156) d_law_156 ?_))
          obtain ⟨o184, h⟩ := h
          refine go_sld FX (pc := 157) d_law_157 o184 ?_
          obtain ⟨o185, h⟩ := h
          refine gc_callVI (As := [.long ((c_lshl (Int32.toInt64 (sx (Int32.toNatClampNeg (y5 + 1)))) 32) ||| ((Int32.toInt64 (sx (Int32.toNatClampNeg (y5 + 2)))) &&& 4294967295)), .int (sx (Int32.toNatClampNeg (y5 + 3)))]) (st := []) F (pc := 158) d_law_158 cb_Lw_15 iv_P_type np_P_type o185 vc_0 (c_P_type h) rfl (by decide) hk hn (Nat.le_of_ble_eq_true rfl) (fun v187 c186 h => ?_)
          refine g_aload_n F (pc := 161) d_law_161 2 rfl (g_aload_n F (pc := 162) d_law_162 0 rfl (g_iload_n F (pc := 163) d_law_163 3 rfl (g_iconst (v := 1) F (pc := 164) d_law_164 (by decide) (g_iadd F (pc := 165) d_law_165 (go_sld FX (pc := 166) d_law_166 o182 ?_)))))
          refine g_i2l F (pc := 167) d_law_167 (g_bipush (v := 32) F (pc := 168) d_law_168 (by decide) (g_lshl F (pc := 170) d_law_170 (g_aload_n F (pc := 171) d_law_171 0 rfl (g_iload_n F (pc := 172) d_law_172 3 rfl (g_iconst (v := 2) F (pc := 173) d_law_173 (by decide) ?_)))))
          refine g_iadd F (pc := 174) d_law_174 (go_sld FX (pc := 175) d_law_175 o183 (g_i2l F (pc := 176) d_law_176 (g_ldc2 F (pc := 177) d_law_177 kc_Lw_13 (g_land F (pc := 180) d_law_180 (g_lor F (pc := 181) d_law_181 ?_)))))
          refine g_aload_n F (pc := 182) d_law_182 0 rfl (g_iload_n F (pc := 183) d_law_183 3 rfl (g_iconst (v := 3) F (pc := 184) d_law_184 (by decide) (g_iadd F (pc := 185) d_law_185 (go_sld FX (pc := 186) d_law_186 o184 ?_))))
          obtain ⟨o188, h⟩ := h
          refine gc_callVI (As := [.long ((c_lshl (Int32.toInt64 (sx (Int32.toNatClampNeg (y5 + 1)))) 32) ||| ((Int32.toInt64 (sx (Int32.toNatClampNeg (y5 + 2)))) &&& 4294967295)), .int (sx (Int32.toNatClampNeg (y5 + 3)))]) (st := [.int v187]) F (pc := 187) d_law_187 cb_Lw_19 iv_Mo_type np_Mo_type o188 vc_7 (c_Mo_type h) rfl (by decide) hk hn (Nat.le_of_ble_eq_true rfl) (fun v190 c189 h => ?_)
          refine g_icmp_eq (tgt := 645) F (pc := 190) d_law_190 (by decide) (fun b191 => ?_) (fun b191 => ?_)
          · replace h := h.1 b191
            exact jn181 _ h
          · replace h := h.2 b191
            refine g_iconst (v := 0) F (pc := 193) d_law_193 (by decide) ?_
            rw [h]
            exact R _ _ _ d_law_194
        rename _ => b9_0
        by_cases b9 : Int32.toInt ((sx (Int32.toNatClampNeg y5)) &&& 31) = 1
        · replace h := h.2.1 b9
          refine g_tab (v := 1) (tgt := 195) F (pc := 32) d_law_32 b9 (by decide) (by decide) rfl (by decide) ?_
          refine g_aload_n F (pc := 195) d_law_195 1 rfl ?_
          obtain ⟨o192, h⟩ := h
          refine gc_callVI (As := []) (st := []) F (pc := 196) d_law_196 cb_Lw_20 iv_P_blob np_P_blob o192 vc_0 (c_P_blob h) rfl (by decide) hk hn (Nat.le_of_ble_eq_true rfl) (fun v194 c193 h => ?_)
          refine g_aload_n F (pc := 199) d_law_199 2 rfl ?_
          obtain ⟨o195, h⟩ := h
          refine gc_callVI (As := []) (st := [.int v194]) F (pc := 200) d_law_200 cb_Lw_24 iv_Mo_blob np_Mo_blob o195 vc_7 (c_Mo_blob h) rfl (by decide) hk hn (Nat.le_of_ble_eq_true rfl) (fun v197 c196 h => ?_)
          refine g_icmp_eq (tgt := 645) F (pc := 203) d_law_203 (by decide) (fun b198 => ?_) (fun b198 => ?_)
          · replace h := h.1 b198
            exact jn181 _ h
          · replace h := h.2 b198
            refine g_iconst (v := 0) F (pc := 206) d_law_206 (by decide) ?_
            rw [h]
            exact R _ _ _ d_law_207
        rename _ => b9_1
        by_cases b9 : Int32.toInt ((sx (Int32.toNatClampNeg y5)) &&& 31) = 2
        · replace h := h.2.2.1 b9
          refine g_tab (v := 2) (tgt := 208) F (pc := 32) d_law_32 b9 (by decide) (by decide) rfl (by decide) ?_
          refine g_aload_n F (pc := 208) d_law_208 1 rfl (g_aload_n F (pc := 209) d_law_209 0 rfl (g_iload_n F (pc := 210) d_law_210 3 rfl (g_iconst (v := 1) F (pc := 211) d_law_211 (by decide) (g_iadd F (pc := 212) d_law_212 ?_))))
          obtain ⟨o199, h⟩ := h
          refine go_sld FX (pc := 213) d_law_213 o199 (g_aload_n F (pc := 214) d_law_214 0 rfl (g_iload_n F (pc := 215) d_law_215 3 rfl (g_iconst (v := 2) F (pc := 216) d_law_216 (by decide) (g_iadd F (pc := 217) d_law_217 ?_))))
          obtain ⟨o200, h⟩ := h
          refine go_sld FX (pc := 218) d_law_218 o200 ?_
          obtain ⟨o201, h⟩ := h
          refine gc_callVI (As := [.int (sx (Int32.toNatClampNeg (y5 + 1))), .int (sx (Int32.toNatClampNeg (y5 + 2)))]) (st := []) F (pc := 219) d_law_219 cb_Lw_25 iv_P_entry np_P_entry o201 vc_0 (c_P_entry h) rfl (by decide) hk hn (Nat.le_of_ble_eq_true rfl) (fun v203 c202 h => ?_)
          refine g_aload_n F (pc := 222) d_law_222 2 rfl (g_aload_n F (pc := 223) d_law_223 0 rfl (g_iload_n F (pc := 224) d_law_224 3 rfl (g_iconst (v := 1) F (pc := 225) d_law_225 (by decide) (g_iadd F (pc := 226) d_law_226 (go_sld FX (pc := 227) d_law_227 o199 ?_)))))
          refine g_aload_n F (pc := 228) d_law_228 0 rfl (g_iload_n F (pc := 229) d_law_229 3 rfl (g_iconst (v := 2) F (pc := 230) d_law_230 (by decide) (g_iadd F (pc := 231) d_law_231 (go_sld FX (pc := 232) d_law_232 o200 ?_))))
          obtain ⟨o204, h⟩ := h
          refine gc_callVI (As := [.int (sx (Int32.toNatClampNeg (y5 + 1))), .int (sx (Int32.toNatClampNeg (y5 + 2)))]) (st := [.int v203]) F (pc := 233) d_law_233 cb_Lw_29 iv_Mo_entry np_Mo_entry o204 vc_7 (c_Mo_entry h) rfl (by decide) hk hn (Nat.le_of_ble_eq_true rfl) (fun v206 c205 h => ?_)
          refine g_icmp_eq (tgt := 645) F (pc := 236) d_law_236 (by decide) (fun b207 => ?_) (fun b207 => ?_)
          · replace h := h.1 b207
            exact jn181 _ h
          · replace h := h.2 b207
            refine g_iconst (v := 0) F (pc := 239) d_law_239 (by decide) ?_
            rw [h]
            exact R _ _ _ d_law_240
        rename _ => b9_2
        by_cases b9 : Int32.toInt ((sx (Int32.toNatClampNeg y5)) &&& 31) = 3
        · replace h := h.2.2.2.1 b9
          refine g_tab (v := 3) (tgt := 241) F (pc := 32) d_law_32 b9 (by decide) (by decide) rfl (by decide) ?_
          refine g_aload_n F (pc := 241) d_law_241 1 rfl ?_
          obtain ⟨o208, h⟩ := h
          refine gc_callVI (As := []) (st := []) F (pc := 242) d_law_242 cb_Lw_30 iv_P_tree np_P_tree o208 vc_0 (c_P_tree h) rfl (by decide) hk hn (Nat.le_of_ble_eq_true rfl) (fun v210 c209 h => ?_)
          refine g_aload_n F (pc := 245) d_law_245 2 rfl ?_
          obtain ⟨o211, h⟩ := h
          refine gc_callVI (As := []) (st := [.int v210]) F (pc := 246) d_law_246 cb_Lw_33 iv_Mo_tree np_Mo_tree o211 vc_7 (c_Mo_tree h) rfl (by decide) hk hn (Nat.le_of_ble_eq_true rfl) (fun v213 c212 h => ?_)
          refine g_icmp_eq (tgt := 645) F (pc := 249) d_law_249 (by decide) (fun b214 => ?_) (fun b214 => ?_)
          · replace h := h.1 b214
            exact jn181 _ h
          · replace h := h.2 b214
            refine g_iconst (v := 0) F (pc := 252) d_law_252 (by decide) ?_
            rw [h]
            exact R _ _ _ d_law_253
        rename _ => b9_3
        by_cases b9 : Int32.toInt ((sx (Int32.toNatClampNeg y5)) &&& 31) = 4
        · replace h := h.2.2.2.2.1 b9
          refine g_tab (v := 4) (tgt := 254) F (pc := 32) d_law_32 b9 (by decide) (by decide) rfl (by decide) ?_
          refine g_aload_n F (pc := 254) d_law_254 1 rfl (g_aload_n F (pc := 255) d_law_255 0 rfl (g_iload_n F (pc := 256) d_law_256 3 rfl (g_iconst (v := 1) F (pc := 257) d_law_257 (by decide) (g_iadd F (pc := 258) d_law_258 ?_))))
          obtain ⟨o215, h⟩ := h
          refine go_sld FX (pc := 259) d_law_259 o215 (g_aload_n F (pc := 260) d_law_260 0 rfl (g_iload_n F (pc := 261) d_law_261 3 rfl (g_iconst (v := 2) F (pc := 262) d_law_262 (by decide) (g_iadd F (pc := 263) d_law_263 ?_))))
          obtain ⟨o216, h⟩ := h
          refine go_sld FX (pc := 264) d_law_264 o216 (g_aload_n F (pc := 265) d_law_265 0 rfl (g_iload_n F (pc := 266) d_law_266 3 rfl (g_iconst (v := 3) F (pc := 267) d_law_267 (by decide) (g_iadd F (pc := 268) d_law_268 ?_))))
          obtain ⟨o217, h⟩ := h
          refine go_sld FX (pc := 269) d_law_269 o217 ?_
          obtain ⟨o218, h⟩ := h
          refine gc_callVI (As := [.int (sx (Int32.toNatClampNeg (y5 + 1))), .int (sx (Int32.toNatClampNeg (y5 + 2))), .int (sx (Int32.toNatClampNeg (y5 + 3)))]) (st := []) F (pc := 270) d_law_270 cb_Lw_34 iv_P_commit np_P_commit o218 vc_0 (c_P_commit h) rfl (by decide) hk hn (Nat.le_of_ble_eq_true rfl) (fun v220 c219 h => ?_)
          refine g_aload_n F (pc := 273) d_law_273 2 rfl (g_aload_n F (pc := 274) d_law_274 0 rfl (g_iload_n F (pc := 275) d_law_275 3 rfl (g_iconst (v := 1) F (pc := 276) d_law_276 (by decide) (g_iadd F (pc := 277) d_law_277 (go_sld FX (pc := 278) d_law_278 o215 ?_)))))
          refine g_aload_n F (pc := 279) d_law_279 0 rfl (g_iload_n F (pc := 280) d_law_280 3 rfl (g_iconst (v := 2) F (pc := 281) d_law_281 (by decide) (g_iadd F (pc := 282) d_law_282 (go_sld FX (pc := 283) d_law_283 o216 (g_aload_n F (pc := 284) d_law_284 0 rfl ?_)))))
          refine g_iload_n F (pc := 285) d_law_285 3 rfl (g_iconst (v := 3) F (pc := 286) d_law_286 (by decide) (g_iadd F (pc := 287) d_law_287 (go_sld FX (pc := 288) d_law_288 o217 ?_)))
          obtain ⟨o221, h⟩ := h
          refine gc_callVI (As := [.int (sx (Int32.toNatClampNeg (y5 + 1))), .int (sx (Int32.toNatClampNeg (y5 + 2))), .int (sx (Int32.toNatClampNeg (y5 + 3)))]) (st := [.int v220]) F (pc := 289) d_law_289 cb_Lw_38 iv_Mo_commit np_Mo_commit o221 vc_7 (c_Mo_commit h) rfl (by decide) hk hn (Nat.le_of_ble_eq_true rfl) (fun v223 c222 h => ?_)
          refine g_icmp_eq (tgt := 645) F (pc := 292) d_law_292 (by decide) (fun b224 => ?_) (fun b224 => ?_)
          · replace h := h.1 b224
            exact jn181 _ h
          · replace h := h.2 b224
            refine g_iconst (v := 0) F (pc := 295) d_law_295 (by decide) ?_
            rw [h]
            exact R _ _ _ d_law_296
        rename _ => b9_4
        by_cases b9 : Int32.toInt ((sx (Int32.toNatClampNeg y5)) &&& 31) = 5
        · replace h := h.2.2.2.2.2.1 b9
          refine g_tab (v := 5) (tgt := 297) F (pc := 32) d_law_32 b9 (by decide) (by decide) rfl (by decide) ?_
          refine g_aload_n F (pc := 297) d_law_297 1 rfl (g_aload_n F (pc := 298) d_law_298 0 rfl (g_iload_n F (pc := 299) d_law_299 3 rfl (g_iconst (v := 1) F (pc := 300) d_law_300 (by decide) (g_iadd F (pc := 301) d_law_301 ?_))))
          obtain ⟨o225, h⟩ := h
          refine go_sld FX (pc := 302) d_law_302 o225 (g_aload_n F (pc := 303) d_law_303 0 rfl (g_iload_n F (pc := 304) d_law_304 3 rfl (g_iconst (v := 2) F (pc := 305) d_law_305 (by decide) (g_iadd F (pc := 306) d_law_306 ?_))))
          obtain ⟨o226, h⟩ := h
          refine go_sld FX (pc := 307) d_law_307 o226 ?_
          obtain ⟨o227, h⟩ := h
          refine gc_callVI (As := [.int (sx (Int32.toNatClampNeg (y5 + 1))), .int (sx (Int32.toNatClampNeg (y5 + 2)))]) (st := []) F (pc := 308) d_law_308 cb_Lw_39 iv_P_branch np_P_branch o227 vc_0 (c_P_branch h) rfl (by decide) hk hn (Nat.le_of_ble_eq_true rfl) (fun v229 c228 h => ?_)
          refine g_aload_n F (pc := 311) d_law_311 2 rfl (g_aload_n F (pc := 312) d_law_312 0 rfl (g_iload_n F (pc := 313) d_law_313 3 rfl (g_iconst (v := 1) F (pc := 314) d_law_314 (by decide) (g_iadd F (pc := 315) d_law_315 (go_sld FX (pc := 316) d_law_316 o225 ?_)))))
          refine g_aload_n F (pc := 317) d_law_317 0 rfl (g_iload_n F (pc := 318) d_law_318 3 rfl (g_iconst (v := 2) F (pc := 319) d_law_319 (by decide) (g_iadd F (pc := 320) d_law_320 (go_sld FX (pc := 321) d_law_321 o226 ?_))))
          obtain ⟨o230, h⟩ := h
          refine gc_callVI (As := [.int (sx (Int32.toNatClampNeg (y5 + 1))), .int (sx (Int32.toNatClampNeg (y5 + 2)))]) (st := [.int v229]) F (pc := 322) d_law_322 cb_Lw_43 iv_Mo_branch np_Mo_branch o230 vc_7 (c_Mo_branch h) rfl (by decide) hk hn (Nat.le_of_ble_eq_true rfl) (fun v232 c231 h => ?_)
          refine g_icmp_eq (tgt := 645) F (pc := 325) d_law_325 (by decide) (fun b233 => ?_) (fun b233 => ?_)
          · replace h := h.1 b233
            exact jn181 _ h
          · replace h := h.2 b233
            refine g_iconst (v := 0) F (pc := 328) d_law_328 (by decide) ?_
            rw [h]
            exact R _ _ _ d_law_329
        rename _ => b9_5
        by_cases b9 : Int32.toInt ((sx (Int32.toNatClampNeg y5)) &&& 31) = 6
        · replace h := h.2.2.2.2.2.2.1 b9
          refine g_tab (v := 6) (tgt := 330) F (pc := 32) d_law_32 b9 (by decide) (by decide) rfl (by decide) ?_
          refine g_aload_n F (pc := 330) d_law_330 1 rfl (g_aload_n F (pc := 331) d_law_331 0 rfl (g_iload_n F (pc := 332) d_law_332 3 rfl (g_iconst (v := 1) F (pc := 333) d_law_333 (by decide) (g_iadd F (pc := 334) d_law_334 ?_))))
          obtain ⟨o234, h⟩ := h
          refine go_sld FX (pc := 335) d_law_335 o234 ?_
          obtain ⟨o235, h⟩ := h
          refine gc_callVI (As := [.int (sx (Int32.toNatClampNeg (y5 + 1)))]) (st := []) F (pc := 336) d_law_336 cb_Lw_44 iv_P_held np_P_held o235 vc_0 (c_P_held h) rfl (by decide) hk hn (Nat.le_of_ble_eq_true rfl) (fun v237 c236 h => ?_)
          refine g_aload_n F (pc := 339) d_law_339 2 rfl (g_aload_n F (pc := 340) d_law_340 0 rfl (g_iload_n F (pc := 341) d_law_341 3 rfl (g_iconst (v := 1) F (pc := 342) d_law_342 (by decide) (g_iadd F (pc := 343) d_law_343 (go_sld FX (pc := 344) d_law_344 o234 ?_)))))
          obtain ⟨o238, h⟩ := h
          refine gc_callVI (As := [.int (sx (Int32.toNatClampNeg (y5 + 1)))]) (st := [.int v237]) F (pc := 345) d_law_345 cb_Lw_48 iv_Mo_held np_Mo_held o238 vc_7 (c_Mo_held h) rfl (by decide) hk hn (Nat.le_of_ble_eq_true rfl) (fun v240 c239 h => ?_)
          refine g_icmp_eq (tgt := 645) F (pc := 348) d_law_348 (by decide) (fun b241 => ?_) (fun b241 => ?_)
          · replace h := h.1 b241
            exact jn181 _ h
          · replace h := h.2 b241
            refine g_iconst (v := 0) F (pc := 351) d_law_351 (by decide) ?_
            rw [h]
            exact R _ _ _ d_law_352
        rename _ => b9_6
        by_cases b9 : Int32.toInt ((sx (Int32.toNatClampNeg y5)) &&& 31) = 7
        · replace h := h.2.2.2.2.2.2.2.1 b9
          refine g_tab (v := 7) (tgt := 353) F (pc := 32) d_law_32 b9 (by decide) (by decide) rfl (by decide) ?_
          refine g_aload_n F (pc := 353) d_law_353 1 rfl ?_
          obtain ⟨o242, h⟩ := h
          refine gc_callVI (As := []) (st := []) F (pc := 354) d_law_354 cb_Lw_49 iv_P_sweep np_P_sweep o242 vc_0 (c_P_sweep h) rfl (by decide) hk hn (Nat.le_of_ble_eq_true rfl) (fun v244 c243 h => ?_)
          refine g_aload_n F (pc := 357) d_law_357 2 rfl ?_
          obtain ⟨o245, h⟩ := h
          refine gc_callVI (As := []) (st := [.int v244]) F (pc := 358) d_law_358 cb_Lw_52 iv_Mo_sweep np_Mo_sweep o245 vc_7 (c_Mo_sweep h) rfl (by decide) hk hn (Nat.le_of_ble_eq_true rfl) (fun v247 c246 h => ?_)
          refine g_icmp_eq (tgt := 645) F (pc := 361) d_law_361 (by decide) (fun b248 => ?_) (fun b248 => ?_)
          · replace h := h.1 b248
            exact jn181 _ h
          · replace h := h.2 b248
            refine g_iconst (v := 0) F (pc := 364) d_law_364 (by decide) ?_
            rw [h]
            exact R _ _ _ d_law_365
        rename _ => b9_7
        by_cases b9 : Int32.toInt ((sx (Int32.toNatClampNeg y5)) &&& 31) = 8
        · replace h := h.2.2.2.2.2.2.2.2.1 b9
          refine g_tab (v := 8) (tgt := 366) F (pc := 32) d_law_32 b9 (by decide) (by decide) rfl (by decide) ?_
          refine g_aload_n F (pc := 366) d_law_366 1 rfl ?_
          obtain ⟨o249, h⟩ := h
          refine gc_callVI (As := []) (st := []) F (pc := 367) d_law_367 cb_Lw_53 iv_P_things np_P_things o249 vc_0 (c_P_things h) rfl (by decide) hk hn (Nat.le_of_ble_eq_true rfl) (fun v251 c250 h => ?_)
          refine g_aload_n F (pc := 370) d_law_370 2 rfl ?_
          obtain ⟨o252, h⟩ := h
          refine gc_callVI (As := []) (st := [.int v251]) F (pc := 371) d_law_371 cb_Lw_56 iv_Mo_things np_Mo_things o252 vc_7 (c_Mo_things h) rfl (by decide) hk hn (Nat.le_of_ble_eq_true rfl) (fun v254 c253 h => ?_)
          refine g_icmp_eq (tgt := 645) F (pc := 374) d_law_374 (by decide) (fun b255 => ?_) (fun b255 => ?_)
          · replace h := h.1 b255
            exact jn181 _ h
          · replace h := h.2 b255
            refine g_iconst (v := 0) F (pc := 377) d_law_377 (by decide) ?_
            rw [h]
            exact R _ _ _ d_law_378
        rename _ => b9_8
        by_cases b9 : Int32.toInt ((sx (Int32.toNatClampNeg y5)) &&& 31) = 9
        · replace h := h.2.2.2.2.2.2.2.2.2.1 b9
          refine g_tab (v := 9) (tgt := 379) F (pc := 32) d_law_32 b9 (by decide) (by decide) rfl (by decide) ?_
          refine g_aload_n F (pc := 379) d_law_379 1 rfl (g_aload_n F (pc := 380) d_law_380 0 rfl (g_iload_n F (pc := 381) d_law_381 3 rfl (g_iconst (v := 1) F (pc := 382) d_law_382 (by decide) (g_iadd F (pc := 383) d_law_383 ?_))))
          obtain ⟨o256, h⟩ := h
          refine go_sld FX (pc := 384) d_law_384 o256 ?_
          obtain ⟨o257, h⟩ := h
          refine gc_callVI (As := [.int (sx (Int32.toNatClampNeg (y5 + 1)))]) (st := []) F (pc := 385) d_law_385 cb_Lw_57 iv_P_kind np_P_kind o257 vc_0 (c_P_kind h) rfl (by decide) hk hn (Nat.le_of_ble_eq_true rfl) (fun v259 c258 h => ?_)
          refine g_aload_n F (pc := 388) d_law_388 2 rfl (g_aload_n F (pc := 389) d_law_389 0 rfl (g_iload_n F (pc := 390) d_law_390 3 rfl (g_iconst (v := 1) F (pc := 391) d_law_391 (by decide) (g_iadd F (pc := 392) d_law_392 (go_sld FX (pc := 393) d_law_393 o256 ?_)))))
          obtain ⟨o260, h⟩ := h
          refine gc_callVI (As := [.int (sx (Int32.toNatClampNeg (y5 + 1)))]) (st := [.int v259]) F (pc := 394) d_law_394 cb_Lw_60 iv_Mo_kind np_Mo_kind o260 vc_7 (c_Mo_kind h) rfl (by decide) hk hn (Nat.le_of_ble_eq_true rfl) (fun v262 c261 h => ?_)
          refine g_icmp_eq (tgt := 645) F (pc := 397) d_law_397 (by decide) (fun b263 => ?_) (fun b263 => ?_)
          · replace h := h.1 b263
            exact jn181 _ h
          · replace h := h.2 b263
            refine g_iconst (v := 0) F (pc := 400) d_law_400 (by decide) ?_
            rw [h]
            exact R _ _ _ d_law_401
        rename _ => b9_9
        by_cases b9 : Int32.toInt ((sx (Int32.toNatClampNeg y5)) &&& 31) = 10
        · replace h := h.2.2.2.2.2.2.2.2.2.2.1 b9
          refine g_tab (v := 10) (tgt := 402) F (pc := 32) d_law_32 b9 (by decide) (by decide) rfl (by decide) ?_
          refine g_aload_n F (pc := 402) d_law_402 1 rfl (g_aload_n F (pc := 403) d_law_403 0 rfl (g_iload_n F (pc := 404) d_law_404 3 rfl (g_iconst (v := 1) F (pc := 405) d_law_405 (by decide) (g_iadd F (pc := 406) d_law_406 ?_))))
          obtain ⟨o264, h⟩ := h
          refine go_sld FX (pc := 407) d_law_407 o264 ?_
          obtain ⟨o265, h⟩ := h
          refine gc_callVI (As := [.int (sx (Int32.toNatClampNeg (y5 + 1)))]) (st := []) F (pc := 408) d_law_408 cb_Lw_61 iv_P_size np_P_size o265 vc_0 (c_P_size h) rfl (by decide) hk hn (Nat.le_of_ble_eq_true rfl) (fun v267 c266 h => ?_)
          refine g_aload_n F (pc := 411) d_law_411 2 rfl (g_aload_n F (pc := 412) d_law_412 0 rfl (g_iload_n F (pc := 413) d_law_413 3 rfl (g_iconst (v := 1) F (pc := 414) d_law_414 (by decide) (g_iadd F (pc := 415) d_law_415 (go_sld FX (pc := 416) d_law_416 o264 ?_)))))
          obtain ⟨o268, h⟩ := h
          refine gc_callVI (As := [.int (sx (Int32.toNatClampNeg (y5 + 1)))]) (st := [.int v267]) F (pc := 417) d_law_417 cb_Lw_64 iv_Mo_size np_Mo_size o268 vc_7 (c_Mo_size h) rfl (by decide) hk hn (Nat.le_of_ble_eq_true rfl) (fun v270 c269 h => ?_)
          refine g_icmp_eq (tgt := 645) F (pc := 420) d_law_420 (by decide) (fun b271 => ?_) (fun b271 => ?_)
          · replace h := h.1 b271
            exact jn181 _ h
          · replace h := h.2 b271
            refine g_iconst (v := 0) F (pc := 423) d_law_423 (by decide) ?_
            rw [h]
            exact R _ _ _ d_law_424
        rename _ => b9_10
        by_cases b9 : Int32.toInt ((sx (Int32.toNatClampNeg y5)) &&& 31) = 11
        · replace h := h.2.2.2.2.2.2.2.2.2.2.2.1 b9
          refine g_tab (v := 11) (tgt := 425) F (pc := 32) d_law_32 b9 (by decide) (by decide) rfl (by decide) ?_
          refine g_aload_n F (pc := 425) d_law_425 1 rfl (g_aload_n F (pc := 426) d_law_426 0 rfl (g_iload_n F (pc := 427) d_law_427 3 rfl (g_iconst (v := 1) F (pc := 428) d_law_428 (by decide) (g_iadd F (pc := 429) d_law_429 ?_))))
          obtain ⟨o272, h⟩ := h
          refine go_sld FX (pc := 430) d_law_430 o272 (g_aload_n F (pc := 431) d_law_431 0 rfl (g_iload_n F (pc := 432) d_law_432 3 rfl (g_iconst (v := 2) F (pc := 433) d_law_433 (by decide) (g_iadd F (pc := 434) d_law_434 ?_))))
          obtain ⟨o273, h⟩ := h
          refine go_sld FX (pc := 435) d_law_435 o273 ?_
          obtain ⟨o274, h⟩ := h
          refine gc_callVI (As := [.int (sx (Int32.toNatClampNeg (y5 + 1))), .int (sx (Int32.toNatClampNeg (y5 + 2)))]) (st := []) F (pc := 436) d_law_436 cb_Lw_65 iv_P_byteOf np_P_byteOf o274 vc_0 (c_P_byteOf h) rfl (by decide) hk hn (Nat.le_of_ble_eq_true rfl) (fun v276 c275 h => ?_)
          refine g_aload_n F (pc := 439) d_law_439 2 rfl (g_aload_n F (pc := 440) d_law_440 0 rfl (g_iload_n F (pc := 441) d_law_441 3 rfl (g_iconst (v := 1) F (pc := 442) d_law_442 (by decide) (g_iadd F (pc := 443) d_law_443 (go_sld FX (pc := 444) d_law_444 o272 ?_)))))
          refine g_aload_n F (pc := 445) d_law_445 0 rfl (g_iload_n F (pc := 446) d_law_446 3 rfl (g_iconst (v := 2) F (pc := 447) d_law_447 (by decide) (g_iadd F (pc := 448) d_law_448 (go_sld FX (pc := 449) d_law_449 o273 ?_))))
          obtain ⟨o277, h⟩ := h
          refine gc_callVI (As := [.int (sx (Int32.toNatClampNeg (y5 + 1))), .int (sx (Int32.toNatClampNeg (y5 + 2)))]) (st := [.int v276]) F (pc := 450) d_law_450 cb_Lw_68 iv_Mo_byteOf np_Mo_byteOf o277 vc_7 (c_Mo_byteOf h) rfl (by decide) hk hn (Nat.le_of_ble_eq_true rfl) (fun v279 c278 h => ?_)
          refine g_icmp_eq (tgt := 645) F (pc := 453) d_law_453 (by decide) (fun b280 => ?_) (fun b280 => ?_)
          · replace h := h.1 b280
            exact jn181 _ h
          · replace h := h.2 b280
            refine g_iconst (v := 0) F (pc := 456) d_law_456 (by decide) ?_
            rw [h]
            exact R _ _ _ d_law_457
        rename _ => b9_11
        by_cases b9 : Int32.toInt ((sx (Int32.toNatClampNeg y5)) &&& 31) = 12
        · replace h := h.2.2.2.2.2.2.2.2.2.2.2.2.1 b9
          refine g_tab (v := 12) (tgt := 458) F (pc := 32) d_law_32 b9 (by decide) (by decide) rfl (by decide) ?_
          refine g_aload_n F (pc := 458) d_law_458 1 rfl (g_aload_n F (pc := 459) d_law_459 0 rfl (g_iload_n F (pc := 460) d_law_460 3 rfl (g_iconst (v := 1) F (pc := 461) d_law_461 (by decide) (g_iadd F (pc := 462) d_law_462 ?_))))
          obtain ⟨o281, h⟩ := h
          refine go_sld FX (pc := 463) d_law_463 o281 (g_aload_n F (pc := 464) d_law_464 0 rfl (g_iload_n F (pc := 465) d_law_465 3 rfl (g_iconst (v := 2) F (pc := 466) d_law_466 (by decide) (g_iadd F (pc := 467) d_law_467 ?_))))
          obtain ⟨o282, h⟩ := h
          refine go_sld FX (pc := 468) d_law_468 o282 ?_
          obtain ⟨o283, h⟩ := h
          refine gc_callVI (As := [.int (sx (Int32.toNatClampNeg (y5 + 1))), .int (sx (Int32.toNatClampNeg (y5 + 2)))]) (st := []) F (pc := 469) d_law_469 cb_Lw_69 iv_P_name np_P_name o283 vc_0 (c_P_name h) rfl (by decide) hk hn (Nat.le_of_ble_eq_true rfl) (fun v285 c284 h => ?_)
          refine g_aload_n F (pc := 472) d_law_472 2 rfl (g_aload_n F (pc := 473) d_law_473 0 rfl (g_iload_n F (pc := 474) d_law_474 3 rfl (g_iconst (v := 1) F (pc := 475) d_law_475 (by decide) (g_iadd F (pc := 476) d_law_476 (go_sld FX (pc := 477) d_law_477 o281 ?_)))))
          refine g_aload_n F (pc := 478) d_law_478 0 rfl (g_iload_n F (pc := 479) d_law_479 3 rfl (g_iconst (v := 2) F (pc := 480) d_law_480 (by decide) (g_iadd F (pc := 481) d_law_481 (go_sld FX (pc := 482) d_law_482 o282 ?_))))
          obtain ⟨o286, h⟩ := h
          refine gc_callVI (As := [.int (sx (Int32.toNatClampNeg (y5 + 1))), .int (sx (Int32.toNatClampNeg (y5 + 2)))]) (st := [.int v285]) F (pc := 483) d_law_483 cb_Lw_72 iv_Mo_name np_Mo_name o286 vc_7 (c_Mo_name h) rfl (by decide) hk hn (Nat.le_of_ble_eq_true rfl) (fun v288 c287 h => ?_)
          refine g_icmp_eq (tgt := 645) F (pc := 486) d_law_486 (by decide) (fun b289 => ?_) (fun b289 => ?_)
          · replace h := h.1 b289
            exact jn181 _ h
          · replace h := h.2 b289
            refine g_iconst (v := 0) F (pc := 489) d_law_489 (by decide) ?_
            rw [h]
            exact R _ _ _ d_law_490
        rename _ => b9_12
        by_cases b9 : Int32.toInt ((sx (Int32.toNatClampNeg y5)) &&& 31) = 13
        · replace h := h.2.2.2.2.2.2.2.2.2.2.2.2.2.1 b9
          refine g_tab (v := 13) (tgt := 491) F (pc := 32) d_law_32 b9 (by decide) (by decide) rfl (by decide) ?_
          refine g_aload_n F (pc := 491) d_law_491 1 rfl (g_aload_n F (pc := 492) d_law_492 0 rfl (g_iload_n F (pc := 493) d_law_493 3 rfl (g_iconst (v := 1) F (pc := 494) d_law_494 (by decide) (g_iadd F (pc := 495) d_law_495 ?_))))
          obtain ⟨o290, h⟩ := h
          refine go_sld FX (pc := 496) d_law_496 o290 ?_
          obtain ⟨o291, h⟩ := h
          refine gc_callVI (As := [.int (sx (Int32.toNatClampNeg (y5 + 1)))]) (st := []) F (pc := 497) d_law_497 cb_Lw_73 iv_P_reached np_P_reached o291 vc_0 (c_P_reached h) rfl (by decide) hk hn (Nat.le_of_ble_eq_true rfl) (fun v293 c292 h => ?_)
          refine g_aload_n F (pc := 500) d_law_500 2 rfl (g_aload_n F (pc := 501) d_law_501 0 rfl (g_iload_n F (pc := 502) d_law_502 3 rfl (g_iconst (v := 1) F (pc := 503) d_law_503 (by decide) (g_iadd F (pc := 504) d_law_504 (go_sld FX (pc := 505) d_law_505 o290 ?_)))))
          obtain ⟨o294, h⟩ := h
          refine gc_callVI (As := [.int (sx (Int32.toNatClampNeg (y5 + 1)))]) (st := [.int v293]) F (pc := 506) d_law_506 cb_Lw_77 iv_Mo_reached np_Mo_reached o294 vc_7 (c_Mo_reached h) rfl (by decide) hk hn (Nat.le_of_ble_eq_true rfl) (fun v296 c295 h => ?_)
          refine g_icmp_eq (tgt := 645) F (pc := 509) d_law_509 (by decide) (fun b297 => ?_) (fun b297 => ?_)
          · replace h := h.1 b297
            exact jn181 _ h
          · replace h := h.2 b297
            refine g_iconst (v := 0) F (pc := 512) d_law_512 (by decide) ?_
            rw [h]
            exact R _ _ _ d_law_513
        rename _ => b9_13
        by_cases b9 : Int32.toInt ((sx (Int32.toNatClampNeg y5)) &&& 31) = 14
        · replace h := h.2.2.2.2.2.2.2.2.2.2.2.2.2.2.1 b9
          refine g_tab (v := 14) (tgt := 514) F (pc := 32) d_law_32 b9 (by decide) (by decide) rfl (by decide) ?_
          refine g_aload_n F (pc := 514) d_law_514 1 rfl ?_
          obtain ⟨o298, h⟩ := h
          refine gc_callVI (As := []) (st := []) F (pc := 515) d_law_515 cb_Lw_78 iv_P_pack np_P_pack o298 vc_0 (c_P_pack h) rfl (by decide) hk hn (Nat.le_of_ble_eq_true rfl) (fun v300 c299 h => ?_)
          refine g_aload_n F (pc := 518) d_law_518 2 rfl ?_
          obtain ⟨o301, h⟩ := h
          refine gc_callVI (As := []) (st := [.int v300]) F (pc := 519) d_law_519 cb_Lw_81 iv_Mo_pack np_Mo_pack o301 vc_7 (c_Mo_pack h) rfl (by decide) hk hn (Nat.le_of_ble_eq_true rfl) (fun v303 c302 h => ?_)
          refine g_icmp_eq (tgt := 645) F (pc := 522) d_law_522 (by decide) (fun b304 => ?_) (fun b304 => ?_)
          · replace h := h.1 b304
            exact jn181 _ h
          · replace h := h.2 b304
            refine g_iconst (v := 0) F (pc := 525) d_law_525 (by decide) ?_
            rw [h]
            exact R _ _ _ d_law_526
        rename _ => b9_14
        by_cases b9 : Int32.toInt ((sx (Int32.toNatClampNeg y5)) &&& 31) = 15
        · replace h := h.2.2.2.2.2.2.2.2.2.2.2.2.2.2.2.1 b9
          refine g_tab (v := 15) (tgt := 527) F (pc := 32) d_law_32 b9 (by decide) (by decide) rfl (by decide) ?_
          refine g_aload_n F (pc := 527) d_law_527 1 rfl ?_
          obtain ⟨o305, h⟩ := h
          refine gc_callVI (As := []) (st := []) F (pc := 528) d_law_528 cb_Lw_82 iv_P_packed np_P_packed o305 vc_0 (c_P_packed h) rfl (by decide) hk hn (Nat.le_of_ble_eq_true rfl) (fun v307 c306 h => ?_)
          refine g_aload_n F (pc := 531) d_law_531 2 rfl ?_
          obtain ⟨o308, h⟩ := h
          refine gc_callVI (As := []) (st := [.int v307]) F (pc := 532) d_law_532 cb_Lw_85 iv_Mo_packed np_Mo_packed o308 vc_7 (c_Mo_packed h) rfl (by decide) hk hn (Nat.le_of_ble_eq_true rfl) (fun v310 c309 h => ?_)
          refine g_icmp_eq (tgt := 645) F (pc := 535) d_law_535 (by decide) (fun b311 => ?_) (fun b311 => ?_)
          · replace h := h.1 b311
            exact jn181 _ h
          · replace h := h.2 b311
            refine g_iconst (v := 0) F (pc := 538) d_law_538 (by decide) ?_
            rw [h]
            exact R _ _ _ d_law_539
        rename _ => b9_15
        by_cases b9 : Int32.toInt ((sx (Int32.toNatClampNeg y5)) &&& 31) = 16
        · replace h := h.2.2.2.2.2.2.2.2.2.2.2.2.2.2.2.2.1 b9
          refine g_tab (v := 16) (tgt := 540) F (pc := 32) d_law_32 b9 (by decide) (by decide) rfl (by decide) ?_
          refine g_aload_n F (pc := 540) d_law_540 1 rfl (g_aload_n F (pc := 541) d_law_541 0 rfl (g_iload_n F (pc := 542) d_law_542 3 rfl (g_iconst (v := 1) F (pc := 543) d_law_543 (by decide) (g_iadd F (pc := 544) d_law_544 ?_))))
          obtain ⟨o312, h⟩ := h
          refine go_sld FX (pc := 545) d_law_545 o312 ?_
          obtain ⟨o313, h⟩ := h
          refine gc_callVI (As := [.int (sx (Int32.toNatClampNeg (y5 + 1)))]) (st := []) F (pc := 546) d_law_546 cb_Lw_86 iv_P_packByte np_P_packByte o313 vc_0 (c_P_packByte h) rfl (by decide) hk hn (Nat.le_of_ble_eq_true rfl) (fun v315 c314 h => ?_)
          refine g_aload_n F (pc := 549) d_law_549 2 rfl (g_aload_n F (pc := 550) d_law_550 0 rfl (g_iload_n F (pc := 551) d_law_551 3 rfl (g_iconst (v := 1) F (pc := 552) d_law_552 (by decide) (g_iadd F (pc := 553) d_law_553 (go_sld FX (pc := 554) d_law_554 o312 ?_)))))
          obtain ⟨o316, h⟩ := h
          refine gc_callVI (As := [.int (sx (Int32.toNatClampNeg (y5 + 1)))]) (st := [.int v315]) F (pc := 555) d_law_555 cb_Lw_89 iv_Mo_packByte np_Mo_packByte o316 vc_7 (c_Mo_packByte h) rfl (by decide) hk hn (Nat.le_of_ble_eq_true rfl) (fun v318 c317 h => ?_)
          refine g_icmp_eq (tgt := 645) F (pc := 558) d_law_558 (by decide) (fun b319 => ?_) (fun b319 => ?_)
          · replace h := h.1 b319
            exact jn181 _ h
          · replace h := h.2 b319
            refine g_iconst (v := 0) F (pc := 561) d_law_561 (by decide) ?_
            rw [h]
            exact R _ _ _ d_law_562
        rename _ => b9_16
        by_cases b9 : Int32.toInt ((sx (Int32.toNatClampNeg y5)) &&& 31) = 17
        · replace h := h.2.2.2.2.2.2.2.2.2.2.2.2.2.2.2.2.2.1 b9
          refine g_tab (v := 17) (tgt := 563) F (pc := 32) d_law_32 b9 (by decide) (by decide) rfl (by decide) ?_
          refine g_aload_n F (pc := 563) d_law_563 1 rfl (g_aload_n F (pc := 564) d_law_564 0 rfl (g_iload_n F (pc := 565) d_law_565 3 rfl (g_iconst (v := 1) F (pc := 566) d_law_566 (by decide) (g_iadd F (pc := 567) d_law_567 ?_))))
          obtain ⟨o320, h⟩ := h
          refine go_sld FX (pc := 568) d_law_568 o320 (g_aload_n F (pc := 569) d_law_569 0 rfl (g_iload_n F (pc := 570) d_law_570 3 rfl (g_iconst (v := 2) F (pc := 571) d_law_571 (by decide) (g_iadd F (pc := 572) d_law_572 ?_))))
          obtain ⟨o321, h⟩ := h
          refine go_sld FX (pc := 573) d_law_573 o321 ?_
          obtain ⟨o322, h⟩ := h
          refine gc_callVI (As := [.int (sx (Int32.toNatClampNeg (y5 + 1))), .int (sx (Int32.toNatClampNeg (y5 + 2)))]) (st := []) F (pc := 574) d_law_574 cb_Lw_90 iv_P_alter np_P_alter o322 vc_0 (c_P_alter h) rfl (by decide) hk hn (Nat.le_of_ble_eq_true rfl) (fun v324 c323 h => ?_)
          refine g_aload_n F (pc := 577) d_law_577 2 rfl (g_aload_n F (pc := 578) d_law_578 0 rfl (g_iload_n F (pc := 579) d_law_579 3 rfl (g_iconst (v := 1) F (pc := 580) d_law_580 (by decide) (g_iadd F (pc := 581) d_law_581 (go_sld FX (pc := 582) d_law_582 o320 ?_)))))
          refine g_aload_n F (pc := 583) d_law_583 0 rfl (g_iload_n F (pc := 584) d_law_584 3 rfl (g_iconst (v := 2) F (pc := 585) d_law_585 (by decide) (g_iadd F (pc := 586) d_law_586 (go_sld FX (pc := 587) d_law_587 o321 ?_))))
          obtain ⟨o325, h⟩ := h
          refine gc_callVI (As := [.int (sx (Int32.toNatClampNeg (y5 + 1))), .int (sx (Int32.toNatClampNeg (y5 + 2)))]) (st := [.int v324]) F (pc := 588) d_law_588 cb_Lw_93 iv_Mo_alter np_Mo_alter o325 vc_7 (c_Mo_alter h) rfl (by decide) hk hn (Nat.le_of_ble_eq_true rfl) (fun v327 c326 h => ?_)
          refine g_icmp_eq (tgt := 645) F (pc := 591) d_law_591 (by decide) (fun b328 => ?_) (fun b328 => ?_)
          · replace h := h.1 b328
            exact jn181 _ h
          · replace h := h.2 b328
            refine g_iconst (v := 0) F (pc := 594) d_law_594 (by decide) ?_
            rw [h]
            exact R _ _ _ d_law_595
        rename _ => b9_17
        by_cases b9 : Int32.toInt ((sx (Int32.toNatClampNeg y5)) &&& 31) = 18
        · replace h := h.2.2.2.2.2.2.2.2.2.2.2.2.2.2.2.2.2.2.1 b9
          refine g_tab (v := 18) (tgt := 596) F (pc := 32) d_law_32 b9 (by decide) (by decide) rfl (by decide) ?_
          refine g_aload_n F (pc := 596) d_law_596 1 rfl (g_aload_n F (pc := 597) d_law_597 0 rfl (g_iload_n F (pc := 598) d_law_598 3 rfl (g_iconst (v := 1) F (pc := 599) d_law_599 (by decide) (g_iadd F (pc := 600) d_law_600 ?_))))
          obtain ⟨o329, h⟩ := h
          refine go_sld FX (pc := 601) d_law_601 o329 ?_
          obtain ⟨o330, h⟩ := h
          refine gc_callVI (As := [.int (sx (Int32.toNatClampNeg (y5 + 1)))]) (st := []) F (pc := 602) d_law_602 cb_Lw_94 iv_P_cut np_P_cut o330 vc_0 (c_P_cut h) rfl (by decide) hk hn (Nat.le_of_ble_eq_true rfl) (fun v332 c331 h => ?_)
          refine g_aload_n F (pc := 605) d_law_605 2 rfl (g_aload_n F (pc := 606) d_law_606 0 rfl (g_iload_n F (pc := 607) d_law_607 3 rfl (g_iconst (v := 1) F (pc := 608) d_law_608 (by decide) (g_iadd F (pc := 609) d_law_609 (go_sld FX (pc := 610) d_law_610 o329 ?_)))))
          obtain ⟨o333, h⟩ := h
          refine gc_callVI (As := [.int (sx (Int32.toNatClampNeg (y5 + 1)))]) (st := [.int v332]) F (pc := 611) d_law_611 cb_Lw_97 iv_Mo_cut np_Mo_cut o333 vc_7 (c_Mo_cut h) rfl (by decide) hk hn (Nat.le_of_ble_eq_true rfl) (fun v335 c334 h => ?_)
          refine g_icmp_eq (tgt := 645) F (pc := 614) d_law_614 (by decide) (fun b336 => ?_) (fun b336 => ?_)
          · replace h := h.1 b336
            exact jn181 _ h
          · replace h := h.2 b336
            refine g_iconst (v := 0) F (pc := 617) d_law_617 (by decide) ?_
            rw [h]
            exact R _ _ _ d_law_618
        rename _ => b9_18
        by_cases b9 : Int32.toInt ((sx (Int32.toNatClampNeg y5)) &&& 31) = 19
        · replace h := h.2.2.2.2.2.2.2.2.2.2.2.2.2.2.2.2.2.2.2.1 b9
          refine g_tab (v := 19) (tgt := 619) F (pc := 32) d_law_32 b9 (by decide) (by decide) rfl (by decide) ?_
          refine g_aload_n F (pc := 619) d_law_619 1 rfl ?_
          obtain ⟨o337, h⟩ := h
          refine gc_callVI (As := []) (st := []) F (pc := 620) d_law_620 cb_Lw_98 iv_P_seal np_P_seal o337 vc_0 (c_P_seal h) rfl (by decide) hk hn (Nat.le_of_ble_eq_true rfl) (fun v339 c338 h => ?_)
          refine g_aload_n F (pc := 623) d_law_623 2 rfl ?_
          obtain ⟨o340, h⟩ := h
          refine gc_callVI (As := []) (st := [.int v339]) F (pc := 624) d_law_624 cb_Lw_102 iv_Mo_seal np_Mo_seal o340 vc_7 (c_Mo_seal h) rfl (by decide) hk hn (Nat.le_of_ble_eq_true rfl) (fun v342 c341 h => ?_)
          refine g_icmp_eq (tgt := 645) F (pc := 627) d_law_627 (by decide) (fun b343 => ?_) (fun b343 => ?_)
          · replace h := h.1 b343
            exact jn181 _ h
          · replace h := h.2 b343
            refine g_iconst (v := 0) F (pc := 630) d_law_630 (by decide) ?_
            rw [h]
            exact R _ _ _ d_law_631
        rename _ => b9_19
        by_cases b9 : Int32.toInt ((sx (Int32.toNatClampNeg y5)) &&& 31) = 20
        · replace h := h.2.2.2.2.2.2.2.2.2.2.2.2.2.2.2.2.2.2.2.2.1 b9
          refine g_tab (v := 20) (tgt := 632) F (pc := 32) d_law_32 b9 (by decide) (by decide) rfl (by decide) ?_
          refine g_aload_n F (pc := 632) d_law_632 1 rfl ?_
          obtain ⟨o344, h⟩ := h
          refine gc_callVI (As := []) (st := []) F (pc := 633) d_law_633 cb_Lw_103 iv_P_unpack np_P_unpack o344 vc_0 (c_P_unpack h) rfl (by decide) hk hn (Nat.le_of_ble_eq_true rfl) (fun v346 c345 h => ?_)
          refine g_aload_n F (pc := 636) d_law_636 2 rfl ?_
          obtain ⟨o347, h⟩ := h
          refine gc_callVI (As := []) (st := [.int v346]) F (pc := 637) d_law_637 cb_Lw_106 iv_Mo_unpack np_Mo_unpack o347 vc_7 (c_Mo_unpack h) rfl (by decide) hk hn (Nat.le_of_ble_eq_true rfl) (fun v349 c348 h => ?_)
          refine g_icmp_eq (tgt := 645) F (pc := 640) d_law_640 (by decide) (fun b350 => ?_) (fun b350 => ?_)
          · replace h := h.1 b350
            exact jn181 _ h
          · replace h := h.2 b350
            refine g_iconst (v := 0) F (pc := 643) d_law_643 (by decide) ?_
            rw [h]
            exact R _ _ _ d_law_644
        rename _ => b9_20
        have b9d : Int32.toInt ((sx (Int32.toNatClampNeg y5)) &&& 31) < 0 ∨ 20 < Int32.toInt ((sx (Int32.toNatClampNeg y5)) &&& 31) := by omega
        replace h := h.2.2.2.2.2.2.2.2.2.2.2.2.2.2.2.2.2.2.2.2.2 b9d
        refine g_tableOut (tgt := 645) F (pc := 32) d_law_32 b9d (by decide) ?_
        exact jn181 _ h
  exact lp4 n0 _ _ h
