theorem FL.inj1 {X : Cx} {Y : Lw} (F : FL X Y) : inj true Y.1 := by
  obtain ⟨⟨p, l, e, R, s, m, args⟩, ⟨below, meth, c, Q⟩, w⟩ := X
  obtain ⟨w1, w2, b, L, xs⟩ := Y
  exact F.2.2.2.2.2.2.1
theorem FL.inj2 {X : Cx} {Y : Lw} (F : FL X Y) : inj false Y.2.1 := by
  obtain ⟨⟨p, l, e, R, s, m, args⟩, ⟨below, meth, c, Q⟩, w⟩ := X
  obtain ⟨w1, w2, b, L, xs⟩ := Y
  exact F.2.2.2.2.2.2.2.1
set_option maxRecDepth 20000 in
theorem law_machine {X : Cx} {Y : Lw} {N k : Nat} {Rel : Nat → SS → SS → Prop} {σ τ : SS} {x : Int32} (F : FL X Y) (h1 : vp_in (x + 1) Y.2.2.2.1) (h2 : vp_in (x + 2) Y.2.2.2.1) (h3 : vp_in (x + 3) Y.2.2.2.1) (h4 : vp_in (x + 4) Y.2.2.2.1) (h5 : vp_in (x + 5) Y.2.2.2.1) (hs : S_machine N Rel) (hk : k < 512) (hr : Rel k σ τ) (g : ∀ σ1 τ1, Rel (k + 1) σ1 τ1 → GL X Y 645 [(0, .ref Y.2.2.1), (1, rf Y.1 0), (2, rf Y.2.1 0), (3, .int x)] [] σ1 τ1) : GL X Y 128 [(0, .ref Y.2.2.1), (1, rf Y.1 0), (2, rf Y.2.1 0), (3, .int x)] [] σ τ := by
  obtain ⟨v, σ1, τ1, q1, q2, q3⟩ := hs k (Y.2.2.2.2 (Int32.toNatClampNeg (x + 1))) (Y.2.2.2.2 (Int32.toNatClampNeg (x + 2))) σ τ hk hr
  refine l_aload F (j := 1) (a := (Y.1.1 0)) dL_law_128 rfl rfl ?_
  refine l_aload F (j := 0) (a := Y.2.2.1) dL_law_129 rfl rfl ?_
  refine l_iload F (j := 3) dL_law_130 rfl rfl ?_
  refine l_iconst F (v := 1) dL_law_131 (by decide) ?_
  refine l_iadd F dL_law_132 ?_
  refine l_sld F h1 dL_law_133 ?_
  refine l_aload F (j := 0) (a := Y.2.2.1) dL_law_134 rfl rfl ?_
  refine l_iload F (j := 3) dL_law_135 rfl rfl ?_
  refine l_iconst F (v := 2) dL_law_136 (by decide) ?_
  refine l_iadd F dL_law_137 ?_
  refine l_sld F h2 dL_law_138 ?_
  refine l_vi1 F (As := [.int (Y.2.2.2.2 (Int32.toNatClampNeg (x + 1))), .int (Y.2.2.2.2 (Int32.toNatClampNeg (x + 2)))]) (rest := []) (mX5_machine N F.inj1 q1) mw_X5_machine (inr_6 _ (List.mem_of_getElem? (i := 10) rfl)) rfl ⟨Nat.le_of_ble_eq_true rfl, Nat.le_of_ble_eq_true rfl⟩ pc0 cl5 rfl (Nat.le_of_ble_eq_true rfl) dL_law_139 ?_
  refine l_aload F (j := 2) (a := (Y.2.1.1 0)) dL_law_142 rfl rfl ?_
  refine l_aload F (j := 0) (a := Y.2.2.1) dL_law_143 rfl rfl ?_
  refine l_iload F (j := 3) dL_law_144 rfl rfl ?_
  refine l_iconst F (v := 1) dL_law_145 (by decide) ?_
  refine l_iadd F dL_law_146 ?_
  refine l_sld F h1 dL_law_147 ?_
  refine l_aload F (j := 0) (a := Y.2.2.1) dL_law_148 rfl rfl ?_
  refine l_iload F (j := 3) dL_law_149 rfl rfl ?_
  refine l_iconst F (v := 2) dL_law_150 (by decide) ?_
  refine l_iadd F dL_law_151 ?_
  refine l_sld F h2 dL_law_152 ?_
  refine l_vi2 F (As := [.int (Y.2.2.2.2 (Int32.toNatClampNeg (x + 1))), .int (Y.2.2.2.2 (Int32.toNatClampNeg (x + 2)))]) (rest := [.int v]) (mX6_machine N F.inj2 q2) mw_X6_machine (inr_6 _ (List.mem_of_getElem? (i := 22) rfl)) rfl ⟨Nat.le_of_ble_eq_true rfl, Nat.le_of_ble_eq_true rfl⟩ pm0 cl6 rfl (Nat.le_of_ble_eq_true rfl) dL_law_153 ?_
  refine l_eq F (tgt := 645) dL_law_156 (by decide) ?_
  exact g _ _ q3
set_option maxRecDepth 20000 in
theorem law_work {X : Cx} {Y : Lw} {N k : Nat} {Rel : Nat → SS → SS → Prop} {σ τ : SS} {x : Int32} (F : FL X Y) (h1 : vp_in (x + 1) Y.2.2.2.1) (h2 : vp_in (x + 2) Y.2.2.2.1) (h3 : vp_in (x + 3) Y.2.2.2.1) (h4 : vp_in (x + 4) Y.2.2.2.1) (h5 : vp_in (x + 5) Y.2.2.2.1) (hs : S_work N Rel) (hk : k < 512) (hr : Rel k σ τ) (g : ∀ σ1 τ1, Rel (k + 1) σ1 τ1 → GL X Y 645 [(0, .ref Y.2.2.1), (1, rf Y.1 0), (2, rf Y.2.1 0), (3, .int x)] [] σ1 τ1) : GL X Y 161 [(0, .ref Y.2.2.1), (1, rf Y.1 0), (2, rf Y.2.1 0), (3, .int x)] [] σ τ := by
  obtain ⟨v, σ1, τ1, q1, q2, q3⟩ := hs k (Y.2.2.2.2 (Int32.toNatClampNeg (x + 1))) (Y.2.2.2.2 (Int32.toNatClampNeg (x + 2))) (Y.2.2.2.2 (Int32.toNatClampNeg (x + 3))) (Y.2.2.2.2 (Int32.toNatClampNeg (x + 4))) (Y.2.2.2.2 (Int32.toNatClampNeg (x + 5))) σ τ hk hr
  refine l_aload F (j := 1) (a := (Y.1.1 0)) dL_law_161 rfl rfl ?_
  refine l_aload F (j := 0) (a := Y.2.2.1) dL_law_162 rfl rfl ?_
  refine l_iload F (j := 3) dL_law_163 rfl rfl ?_
  refine l_iconst F (v := 1) dL_law_164 (by decide) ?_
  refine l_iadd F dL_law_165 ?_
  refine l_sld F h1 dL_law_166 ?_
  refine l_aload F (j := 0) (a := Y.2.2.1) dL_law_167 rfl rfl ?_
  refine l_iload F (j := 3) dL_law_168 rfl rfl ?_
  refine l_iconst F (v := 2) dL_law_169 (by decide) ?_
  refine l_iadd F dL_law_170 ?_
  refine l_sld F h2 dL_law_171 ?_
  refine l_aload F (j := 0) (a := Y.2.2.1) dL_law_172 rfl rfl ?_
  refine l_iload F (j := 3) dL_law_173 rfl rfl ?_
  refine l_iconst F (v := 3) dL_law_174 (by decide) ?_
  refine l_iadd F dL_law_175 ?_
  refine l_sld F h3 dL_law_176 ?_
  refine l_aload F (j := 0) (a := Y.2.2.1) dL_law_177 rfl rfl ?_
  refine l_iload F (j := 3) dL_law_178 rfl rfl ?_
  refine l_iconst F (v := 4) dL_law_179 (by decide) ?_
  refine l_iadd F dL_law_180 ?_
  refine l_sld F h4 dL_law_181 ?_
  refine l_aload F (j := 0) (a := Y.2.2.1) dL_law_182 rfl rfl ?_
  refine l_iload F (j := 3) dL_law_183 rfl rfl ?_
  refine l_iconst F (v := 5) dL_law_184 (by decide) ?_
  refine l_iadd F dL_law_185 ?_
  refine l_sld F h5 dL_law_186 ?_
  refine l_vi1 F (As := [.int (Y.2.2.2.2 (Int32.toNatClampNeg (x + 1))), .int (Y.2.2.2.2 (Int32.toNatClampNeg (x + 2))), .int (Y.2.2.2.2 (Int32.toNatClampNeg (x + 3))), .int (Y.2.2.2.2 (Int32.toNatClampNeg (x + 4))), .int (Y.2.2.2.2 (Int32.toNatClampNeg (x + 5)))]) (rest := []) (mX5_work N F.inj1 q1) mw_X5_work (inr_7 _ (List.mem_of_getElem? (i := 6) rfl)) rfl ⟨Nat.le_of_ble_eq_true rfl, Nat.le_of_ble_eq_true rfl⟩ pc0 cl5 rfl (Nat.le_of_ble_eq_true rfl) dL_law_187 ?_
  refine l_aload F (j := 2) (a := (Y.2.1.1 0)) dL_law_190 rfl rfl ?_
  refine l_aload F (j := 0) (a := Y.2.2.1) dL_law_191 rfl rfl ?_
  refine l_iload F (j := 3) dL_law_192 rfl rfl ?_
  refine l_iconst F (v := 1) dL_law_193 (by decide) ?_
  refine l_iadd F dL_law_194 ?_
  refine l_sld F h1 dL_law_195 ?_
  refine l_aload F (j := 0) (a := Y.2.2.1) dL_law_196 rfl rfl ?_
  refine l_iload F (j := 3) dL_law_197 rfl rfl ?_
  refine l_iconst F (v := 2) dL_law_198 (by decide) ?_
  refine l_iadd F dL_law_199 ?_
  refine l_sld F h2 dL_law_200 ?_
  refine l_aload F (j := 0) (a := Y.2.2.1) dL_law_201 rfl rfl ?_
  refine l_iload F (j := 3) dL_law_202 rfl rfl ?_
  refine l_iconst F (v := 3) dL_law_203 (by decide) ?_
  refine l_iadd F dL_law_204 ?_
  refine l_sld F h3 dL_law_205 ?_
  refine l_aload F (j := 0) (a := Y.2.2.1) dL_law_206 rfl rfl ?_
  refine l_iload F (j := 3) dL_law_207 rfl rfl ?_
  refine l_iconst F (v := 4) dL_law_208 (by decide) ?_
  refine l_iadd F dL_law_209 ?_
  refine l_sld F h4 dL_law_210 ?_
  refine l_aload F (j := 0) (a := Y.2.2.1) dL_law_211 rfl rfl ?_
  refine l_iload F (j := 3) dL_law_212 rfl rfl ?_
  refine l_iconst F (v := 5) dL_law_213 (by decide) ?_
  refine l_iadd F dL_law_214 ?_
  refine l_sld F h5 dL_law_215 ?_
  refine l_vi2 F (As := [.int (Y.2.2.2.2 (Int32.toNatClampNeg (x + 1))), .int (Y.2.2.2.2 (Int32.toNatClampNeg (x + 2))), .int (Y.2.2.2.2 (Int32.toNatClampNeg (x + 3))), .int (Y.2.2.2.2 (Int32.toNatClampNeg (x + 4))), .int (Y.2.2.2.2 (Int32.toNatClampNeg (x + 5)))]) (rest := [.int v]) (mX6_work N F.inj2 q2) mw_X6_work (inr_9 _ (List.mem_of_getElem? (i := 5) rfl)) rfl ⟨Nat.le_of_ble_eq_true rfl, Nat.le_of_ble_eq_true rfl⟩ pm0 cl6 rfl (Nat.le_of_ble_eq_true rfl) dL_law_216 ?_
  refine l_eq F (tgt := 645) dL_law_219 (by decide) ?_
  exact g _ _ q3
set_option maxRecDepth 20000 in
theorem law_move {X : Cx} {Y : Lw} {N k : Nat} {Rel : Nat → SS → SS → Prop} {σ τ : SS} {x : Int32} (F : FL X Y) (h1 : vp_in (x + 1) Y.2.2.2.1) (h2 : vp_in (x + 2) Y.2.2.2.1) (h3 : vp_in (x + 3) Y.2.2.2.1) (h4 : vp_in (x + 4) Y.2.2.2.1) (h5 : vp_in (x + 5) Y.2.2.2.1) (hs : S_move N Rel) (hk : k < 512) (hr : Rel k σ τ) (g : ∀ σ1 τ1, Rel (k + 1) σ1 τ1 → GL X Y 645 [(0, .ref Y.2.2.1), (1, rf Y.1 0), (2, rf Y.2.1 0), (3, .int x)] [] σ1 τ1) : GL X Y 224 [(0, .ref Y.2.2.1), (1, rf Y.1 0), (2, rf Y.2.1 0), (3, .int x)] [] σ τ := by
  obtain ⟨v, σ1, τ1, q1, q2, q3⟩ := hs k (Y.2.2.2.2 (Int32.toNatClampNeg (x + 1))) (Y.2.2.2.2 (Int32.toNatClampNeg (x + 2))) σ τ hk hr
  refine l_aload F (j := 1) (a := (Y.1.1 0)) dL_law_224 rfl rfl ?_
  refine l_aload F (j := 0) (a := Y.2.2.1) dL_law_225 rfl rfl ?_
  refine l_iload F (j := 3) dL_law_226 rfl rfl ?_
  refine l_iconst F (v := 1) dL_law_227 (by decide) ?_
  refine l_iadd F dL_law_228 ?_
  refine l_sld F h1 dL_law_229 ?_
  refine l_aload F (j := 0) (a := Y.2.2.1) dL_law_230 rfl rfl ?_
  refine l_iload F (j := 3) dL_law_231 rfl rfl ?_
  refine l_iconst F (v := 2) dL_law_232 (by decide) ?_
  refine l_iadd F dL_law_233 ?_
  refine l_sld F h2 dL_law_234 ?_
  refine l_vi1 F (As := [.int (Y.2.2.2.2 (Int32.toNatClampNeg (x + 1))), .int (Y.2.2.2.2 (Int32.toNatClampNeg (x + 2)))]) (rest := []) (mX5_move N F.inj1 q1) mw_X5_move (inr_10 _ (List.mem_of_getElem? (i := 12) rfl)) rfl ⟨Nat.le_of_ble_eq_true rfl, Nat.le_of_ble_eq_true rfl⟩ pc0 cl5 rfl (Nat.le_of_ble_eq_true rfl) dL_law_235 ?_
  refine l_aload F (j := 2) (a := (Y.2.1.1 0)) dL_law_238 rfl rfl ?_
  refine l_aload F (j := 0) (a := Y.2.2.1) dL_law_239 rfl rfl ?_
  refine l_iload F (j := 3) dL_law_240 rfl rfl ?_
  refine l_iconst F (v := 1) dL_law_241 (by decide) ?_
  refine l_iadd F dL_law_242 ?_
  refine l_sld F h1 dL_law_243 ?_
  refine l_aload F (j := 0) (a := Y.2.2.1) dL_law_244 rfl rfl ?_
  refine l_iload F (j := 3) dL_law_245 rfl rfl ?_
  refine l_iconst F (v := 2) dL_law_246 (by decide) ?_
  refine l_iadd F dL_law_247 ?_
  refine l_sld F h2 dL_law_248 ?_
  refine l_vi2 F (As := [.int (Y.2.2.2.2 (Int32.toNatClampNeg (x + 1))), .int (Y.2.2.2.2 (Int32.toNatClampNeg (x + 2)))]) (rest := [.int v]) (mX6_move N F.inj2 q2) mw_X6_move (inr_12 _ (List.mem_of_getElem? (i := 3) rfl)) rfl ⟨Nat.le_of_ble_eq_true rfl, Nat.le_of_ble_eq_true rfl⟩ pm0 cl6 rfl (Nat.le_of_ble_eq_true rfl) dL_law_249 ?_
  refine l_eq F (tgt := 645) dL_law_252 (by decide) ?_
  exact g _ _ q3
set_option maxRecDepth 20000 in
theorem law_price {X : Cx} {Y : Lw} {N k : Nat} {Rel : Nat → SS → SS → Prop} {σ τ : SS} {x : Int32} (F : FL X Y) (h1 : vp_in (x + 1) Y.2.2.2.1) (h2 : vp_in (x + 2) Y.2.2.2.1) (h3 : vp_in (x + 3) Y.2.2.2.1) (h4 : vp_in (x + 4) Y.2.2.2.1) (h5 : vp_in (x + 5) Y.2.2.2.1) (hs : S_price N Rel) (hk : k < 512) (hr : Rel k σ τ) (g : ∀ σ1 τ1, Rel (k + 1) σ1 τ1 → GL X Y 645 [(0, .ref Y.2.2.1), (1, rf Y.1 0), (2, rf Y.2.1 0), (3, .int x)] [] σ1 τ1) : GL X Y 257 [(0, .ref Y.2.2.1), (1, rf Y.1 0), (2, rf Y.2.1 0), (3, .int x)] [] σ τ := by
  obtain ⟨v, σ1, τ1, q1, q2, q3⟩ := hs k (Y.2.2.2.2 (Int32.toNatClampNeg (x + 1))) σ τ hk hr
  refine l_aload F (j := 1) (a := (Y.1.1 0)) dL_law_257 rfl rfl ?_
  refine l_aload F (j := 0) (a := Y.2.2.1) dL_law_258 rfl rfl ?_
  refine l_iload F (j := 3) dL_law_259 rfl rfl ?_
  refine l_iconst F (v := 1) dL_law_260 (by decide) ?_
  refine l_iadd F dL_law_261 ?_
  refine l_sld F h1 dL_law_262 ?_
  refine l_vi1 F (As := [.int (Y.2.2.2.2 (Int32.toNatClampNeg (x + 1)))]) (rest := []) (mX5_price N F.inj1 q1) mw_X5_price (inr_13 _ (List.mem_of_getElem? (i := 13) rfl)) rfl ⟨Nat.le_of_ble_eq_true rfl, Nat.le_of_ble_eq_true rfl⟩ pc0 cl5 rfl (Nat.le_of_ble_eq_true rfl) dL_law_263 ?_
  refine l_aload F (j := 2) (a := (Y.2.1.1 0)) dL_law_266 rfl rfl ?_
  refine l_aload F (j := 0) (a := Y.2.2.1) dL_law_267 rfl rfl ?_
  refine l_iload F (j := 3) dL_law_268 rfl rfl ?_
  refine l_iconst F (v := 1) dL_law_269 (by decide) ?_
  refine l_iadd F dL_law_270 ?_
  refine l_sld F h1 dL_law_271 ?_
  refine l_vi2 F (As := [.int (Y.2.2.2.2 (Int32.toNatClampNeg (x + 1)))]) (rest := [.int v]) (mX6_price N F.inj2 q2) mw_X6_price (inr_13 _ (List.mem_of_getElem? (i := 17) rfl)) rfl ⟨Nat.le_of_ble_eq_true rfl, Nat.le_of_ble_eq_true rfl⟩ pm0 cl6 rfl (Nat.le_of_ble_eq_true rfl) dL_law_272 ?_
  refine l_eq F (tgt := 645) dL_law_275 (by decide) ?_
  exact g _ _ q3
set_option maxRecDepth 20000 in
theorem law_about {X : Cx} {Y : Lw} {N k : Nat} {Rel : Nat → SS → SS → Prop} {σ τ : SS} {x : Int32} (F : FL X Y) (h1 : vp_in (x + 1) Y.2.2.2.1) (h2 : vp_in (x + 2) Y.2.2.2.1) (h3 : vp_in (x + 3) Y.2.2.2.1) (h4 : vp_in (x + 4) Y.2.2.2.1) (h5 : vp_in (x + 5) Y.2.2.2.1) (hs : S_about N Rel) (hk : k < 512) (hr : Rel k σ τ) (g : ∀ σ1 τ1, Rel (k + 1) σ1 τ1 → GL X Y 645 [(0, .ref Y.2.2.1), (1, rf Y.1 0), (2, rf Y.2.1 0), (3, .int x)] [] σ1 τ1) : GL X Y 280 [(0, .ref Y.2.2.1), (1, rf Y.1 0), (2, rf Y.2.1 0), (3, .int x)] [] σ τ := by
  obtain ⟨v, σ1, τ1, q1, q2, q3⟩ := hs k (Y.2.2.2.2 (Int32.toNatClampNeg (x + 1))) (Y.2.2.2.2 (Int32.toNatClampNeg (x + 2))) σ τ hk hr
  refine l_aload F (j := 1) (a := (Y.1.1 0)) dL_law_280 rfl rfl ?_
  refine l_aload F (j := 0) (a := Y.2.2.1) dL_law_281 rfl rfl ?_
  refine l_iload F (j := 3) dL_law_282 rfl rfl ?_
  refine l_iconst F (v := 1) dL_law_283 (by decide) ?_
  refine l_iadd F dL_law_284 ?_
  refine l_sld F h1 dL_law_285 ?_
  refine l_aload F (j := 0) (a := Y.2.2.1) dL_law_286 rfl rfl ?_
  refine l_iload F (j := 3) dL_law_287 rfl rfl ?_
  refine l_iconst F (v := 2) dL_law_288 (by decide) ?_
  refine l_iadd F dL_law_289 ?_
  refine l_sld F h2 dL_law_290 ?_
  refine l_vi1 F (As := [.int (Y.2.2.2.2 (Int32.toNatClampNeg (x + 1))), .int (Y.2.2.2.2 (Int32.toNatClampNeg (x + 2)))]) (rest := []) (mX5_about N F.inj1 q1) mw_X5_about (inr_13 _ (List.mem_of_getElem? (i := 21) rfl)) rfl ⟨Nat.le_of_ble_eq_true rfl, Nat.le_of_ble_eq_true rfl⟩ pc0 cl5 rfl (Nat.le_of_ble_eq_true rfl) dL_law_291 ?_
  refine l_aload F (j := 2) (a := (Y.2.1.1 0)) dL_law_294 rfl rfl ?_
  refine l_aload F (j := 0) (a := Y.2.2.1) dL_law_295 rfl rfl ?_
  refine l_iload F (j := 3) dL_law_296 rfl rfl ?_
  refine l_iconst F (v := 1) dL_law_297 (by decide) ?_
  refine l_iadd F dL_law_298 ?_
  refine l_sld F h1 dL_law_299 ?_
  refine l_aload F (j := 0) (a := Y.2.2.1) dL_law_300 rfl rfl ?_
  refine l_iload F (j := 3) dL_law_301 rfl rfl ?_
  refine l_iconst F (v := 2) dL_law_302 (by decide) ?_
  refine l_iadd F dL_law_303 ?_
  refine l_sld F h2 dL_law_304 ?_
  refine l_vi2 F (As := [.int (Y.2.2.2.2 (Int32.toNatClampNeg (x + 1))), .int (Y.2.2.2.2 (Int32.toNatClampNeg (x + 2)))]) (rest := [.int v]) (mX6_about N F.inj2 q2) mw_X6_about (inr_14 _ (List.mem_of_getElem? (i := 3) rfl)) rfl ⟨Nat.le_of_ble_eq_true rfl, Nat.le_of_ble_eq_true rfl⟩ pm0 cl6 rfl (Nat.le_of_ble_eq_true rfl) dL_law_305 ?_
  refine l_eq F (tgt := 645) dL_law_308 (by decide) ?_
  exact g _ _ q3
set_option maxRecDepth 20000 in
theorem law_free {X : Cx} {Y : Lw} {N k : Nat} {Rel : Nat → SS → SS → Prop} {σ τ : SS} {x : Int32} (F : FL X Y) (h1 : vp_in (x + 1) Y.2.2.2.1) (h2 : vp_in (x + 2) Y.2.2.2.1) (h3 : vp_in (x + 3) Y.2.2.2.1) (h4 : vp_in (x + 4) Y.2.2.2.1) (h5 : vp_in (x + 5) Y.2.2.2.1) (hs : S_free N Rel) (hk : k < 512) (hr : Rel k σ τ) (g : ∀ σ1 τ1, Rel (k + 1) σ1 τ1 → GL X Y 645 [(0, .ref Y.2.2.1), (1, rf Y.1 0), (2, rf Y.2.1 0), (3, .int x)] [] σ1 τ1) : GL X Y 313 [(0, .ref Y.2.2.1), (1, rf Y.1 0), (2, rf Y.2.1 0), (3, .int x)] [] σ τ := by
  obtain ⟨v, σ1, τ1, q1, q2, q3⟩ := hs k (Y.2.2.2.2 (Int32.toNatClampNeg (x + 1))) (Y.2.2.2.2 (Int32.toNatClampNeg (x + 2))) σ τ hk hr
  refine l_aload F (j := 1) (a := (Y.1.1 0)) dL_law_313 rfl rfl ?_
  refine l_aload F (j := 0) (a := Y.2.2.1) dL_law_314 rfl rfl ?_
  refine l_iload F (j := 3) dL_law_315 rfl rfl ?_
  refine l_iconst F (v := 1) dL_law_316 (by decide) ?_
  refine l_iadd F dL_law_317 ?_
  refine l_sld F h1 dL_law_318 ?_
  refine l_aload F (j := 0) (a := Y.2.2.1) dL_law_319 rfl rfl ?_
  refine l_iload F (j := 3) dL_law_320 rfl rfl ?_
  refine l_iconst F (v := 2) dL_law_321 (by decide) ?_
  refine l_iadd F dL_law_322 ?_
  refine l_sld F h2 dL_law_323 ?_
  refine l_vi1 F (As := [.int (Y.2.2.2.2 (Int32.toNatClampNeg (x + 1))), .int (Y.2.2.2.2 (Int32.toNatClampNeg (x + 2)))]) (rest := []) (mX5_free N F.inj1 q1) mw_X5_free (inr_14 _ (List.mem_of_getElem? (i := 7) rfl)) rfl ⟨Nat.le_of_ble_eq_true rfl, Nat.le_of_ble_eq_true rfl⟩ pc0 cl5 rfl (Nat.le_of_ble_eq_true rfl) dL_law_324 ?_
  refine l_aload F (j := 2) (a := (Y.2.1.1 0)) dL_law_327 rfl rfl ?_
  refine l_aload F (j := 0) (a := Y.2.2.1) dL_law_328 rfl rfl ?_
  refine l_iload F (j := 3) dL_law_329 rfl rfl ?_
  refine l_iconst F (v := 1) dL_law_330 (by decide) ?_
  refine l_iadd F dL_law_331 ?_
  refine l_sld F h1 dL_law_332 ?_
  refine l_aload F (j := 0) (a := Y.2.2.1) dL_law_333 rfl rfl ?_
  refine l_iload F (j := 3) dL_law_334 rfl rfl ?_
  refine l_iconst F (v := 2) dL_law_335 (by decide) ?_
  refine l_iadd F dL_law_336 ?_
  refine l_sld F h2 dL_law_337 ?_
  refine l_vi2 F (As := [.int (Y.2.2.2.2 (Int32.toNatClampNeg (x + 1))), .int (Y.2.2.2.2 (Int32.toNatClampNeg (x + 2)))]) (rest := [.int v]) (mX6_free N F.inj2 q2) mw_X6_free (inr_14 _ (List.mem_of_getElem? (i := 14) rfl)) rfl ⟨Nat.le_of_ble_eq_true rfl, Nat.le_of_ble_eq_true rfl⟩ pm0 cl6 rfl (Nat.le_of_ble_eq_true rfl) dL_law_338 ?_
  refine l_eq F (tgt := 645) dL_law_341 (by decide) ?_
  exact g _ _ q3
set_option maxRecDepth 20000 in
theorem law_fewest {X : Cx} {Y : Lw} {N k : Nat} {Rel : Nat → SS → SS → Prop} {σ τ : SS} {x : Int32} (F : FL X Y) (h1 : vp_in (x + 1) Y.2.2.2.1) (h2 : vp_in (x + 2) Y.2.2.2.1) (h3 : vp_in (x + 3) Y.2.2.2.1) (h4 : vp_in (x + 4) Y.2.2.2.1) (h5 : vp_in (x + 5) Y.2.2.2.1) (hs : S_fewest N Rel) (hk : k < 512) (hr : Rel k σ τ) (g : ∀ σ1 τ1, Rel (k + 1) σ1 τ1 → GL X Y 645 [(0, .ref Y.2.2.1), (1, rf Y.1 0), (2, rf Y.2.1 0), (3, .int x)] [] σ1 τ1) : GL X Y 346 [(0, .ref Y.2.2.1), (1, rf Y.1 0), (2, rf Y.2.1 0), (3, .int x)] [] σ τ := by
  obtain ⟨v, σ1, τ1, q1, q2, q3⟩ := hs k σ τ hk hr
  refine l_aload F (j := 1) (a := (Y.1.1 0)) dL_law_346 rfl rfl ?_
  refine l_vi1 F (As := []) (rest := []) (mX5_fewest N F.inj1 q1) mw_X5_fewest (inr_14 _ (List.mem_of_getElem? (i := 22) rfl)) rfl ⟨Nat.le_of_ble_eq_true rfl, Nat.le_of_ble_eq_true rfl⟩ pc0 cl5 rfl (Nat.le_of_ble_eq_true rfl) dL_law_347 ?_
  refine l_aload F (j := 2) (a := (Y.2.1.1 0)) dL_law_350 rfl rfl ?_
  refine l_vi2 F (As := []) (rest := [.int v]) (mX6_fewest N F.inj2 q2) mw_X6_fewest (inr_17 _ (List.mem_of_getElem? (i := 10) rfl)) rfl ⟨Nat.le_of_ble_eq_true rfl, Nat.le_of_ble_eq_true rfl⟩ pm0 cl6 rfl (Nat.le_of_ble_eq_true rfl) dL_law_351 ?_
  refine l_eq F (tgt := 645) dL_law_354 (by decide) ?_
  exact g _ _ q3
set_option maxRecDepth 20000 in
theorem law_plan {X : Cx} {Y : Lw} {N k : Nat} {Rel : Nat → SS → SS → Prop} {σ τ : SS} {x : Int32} (F : FL X Y) (h1 : vp_in (x + 1) Y.2.2.2.1) (h2 : vp_in (x + 2) Y.2.2.2.1) (h3 : vp_in (x + 3) Y.2.2.2.1) (h4 : vp_in (x + 4) Y.2.2.2.1) (h5 : vp_in (x + 5) Y.2.2.2.1) (hs : S_plan N Rel) (hk : k < 512) (hr : Rel k σ τ) (g : ∀ σ1 τ1, Rel (k + 1) σ1 τ1 → GL X Y 645 [(0, .ref Y.2.2.1), (1, rf Y.1 0), (2, rf Y.2.1 0), (3, .int x)] [] σ1 τ1) : GL X Y 359 [(0, .ref Y.2.2.1), (1, rf Y.1 0), (2, rf Y.2.1 0), (3, .int x)] [] σ τ := by
  obtain ⟨v, σ1, τ1, q1, q2, q3⟩ := hs k (Y.2.2.2.2 (Int32.toNatClampNeg (x + 1))) (Y.2.2.2.2 (Int32.toNatClampNeg (x + 2))) (Y.2.2.2.2 (Int32.toNatClampNeg (x + 3))) (Y.2.2.2.2 (Int32.toNatClampNeg (x + 4))) σ τ hk hr
  refine l_aload F (j := 1) (a := (Y.1.1 0)) dL_law_359 rfl rfl ?_
  refine l_aload F (j := 0) (a := Y.2.2.1) dL_law_360 rfl rfl ?_
  refine l_iload F (j := 3) dL_law_361 rfl rfl ?_
  refine l_iconst F (v := 1) dL_law_362 (by decide) ?_
  refine l_iadd F dL_law_363 ?_
  refine l_sld F h1 dL_law_364 ?_
  refine l_aload F (j := 0) (a := Y.2.2.1) dL_law_365 rfl rfl ?_
  refine l_iload F (j := 3) dL_law_366 rfl rfl ?_
  refine l_iconst F (v := 2) dL_law_367 (by decide) ?_
  refine l_iadd F dL_law_368 ?_
  refine l_sld F h2 dL_law_369 ?_
  refine l_aload F (j := 0) (a := Y.2.2.1) dL_law_370 rfl rfl ?_
  refine l_iload F (j := 3) dL_law_371 rfl rfl ?_
  refine l_iconst F (v := 3) dL_law_372 (by decide) ?_
  refine l_iadd F dL_law_373 ?_
  refine l_sld F h3 dL_law_374 ?_
  refine l_aload F (j := 0) (a := Y.2.2.1) dL_law_375 rfl rfl ?_
  refine l_iload F (j := 3) dL_law_376 rfl rfl ?_
  refine l_iconst F (v := 4) dL_law_377 (by decide) ?_
  refine l_iadd F dL_law_378 ?_
  refine l_sld F h4 dL_law_379 ?_
  refine l_vi1 F (As := [.int (Y.2.2.2.2 (Int32.toNatClampNeg (x + 1))), .int (Y.2.2.2.2 (Int32.toNatClampNeg (x + 2))), .int (Y.2.2.2.2 (Int32.toNatClampNeg (x + 3))), .int (Y.2.2.2.2 (Int32.toNatClampNeg (x + 4)))]) (rest := []) (mX5_plan N F.inj1 q1) mw_X5_plan (inr_19 _ (List.mem_of_getElem? (i := 9) rfl)) rfl ⟨Nat.le_of_ble_eq_true rfl, Nat.le_of_ble_eq_true rfl⟩ pc0 cl5 rfl (Nat.le_of_ble_eq_true rfl) dL_law_380 ?_
  refine l_aload F (j := 2) (a := (Y.2.1.1 0)) dL_law_383 rfl rfl ?_
  refine l_aload F (j := 0) (a := Y.2.2.1) dL_law_384 rfl rfl ?_
  refine l_iload F (j := 3) dL_law_385 rfl rfl ?_
  refine l_iconst F (v := 1) dL_law_386 (by decide) ?_
  refine l_iadd F dL_law_387 ?_
  refine l_sld F h1 dL_law_388 ?_
  refine l_aload F (j := 0) (a := Y.2.2.1) dL_law_389 rfl rfl ?_
  refine l_iload F (j := 3) dL_law_390 rfl rfl ?_
  refine l_iconst F (v := 2) dL_law_391 (by decide) ?_
  refine l_iadd F dL_law_392 ?_
  refine l_sld F h2 dL_law_393 ?_
  refine l_aload F (j := 0) (a := Y.2.2.1) dL_law_394 rfl rfl ?_
  refine l_iload F (j := 3) dL_law_395 rfl rfl ?_
  refine l_iconst F (v := 3) dL_law_396 (by decide) ?_
  refine l_iadd F dL_law_397 ?_
  refine l_sld F h3 dL_law_398 ?_
  refine l_aload F (j := 0) (a := Y.2.2.1) dL_law_399 rfl rfl ?_
  refine l_iload F (j := 3) dL_law_400 rfl rfl ?_
  refine l_iconst F (v := 4) dL_law_401 (by decide) ?_
  refine l_iadd F dL_law_402 ?_
  refine l_sld F h4 dL_law_403 ?_
  refine l_vi2 F (As := [.int (Y.2.2.2.2 (Int32.toNatClampNeg (x + 1))), .int (Y.2.2.2.2 (Int32.toNatClampNeg (x + 2))), .int (Y.2.2.2.2 (Int32.toNatClampNeg (x + 3))), .int (Y.2.2.2.2 (Int32.toNatClampNeg (x + 4)))]) (rest := [.int v]) (mX6_plan N F.inj2 q2) mw_X6_plan (inr_19 _ (List.mem_of_getElem? (i := 20) rfl)) rfl ⟨Nat.le_of_ble_eq_true rfl, Nat.le_of_ble_eq_true rfl⟩ pm0 cl6 rfl (Nat.le_of_ble_eq_true rfl) dL_law_404 ?_
  refine l_eq F (tgt := 645) dL_law_407 (by decide) ?_
  exact g _ _ q3
set_option maxRecDepth 20000 in
theorem law_planAt {X : Cx} {Y : Lw} {N k : Nat} {Rel : Nat → SS → SS → Prop} {σ τ : SS} {x : Int32} (F : FL X Y) (h1 : vp_in (x + 1) Y.2.2.2.1) (h2 : vp_in (x + 2) Y.2.2.2.1) (h3 : vp_in (x + 3) Y.2.2.2.1) (h4 : vp_in (x + 4) Y.2.2.2.1) (h5 : vp_in (x + 5) Y.2.2.2.1) (hs : S_planAt N Rel) (hk : k < 512) (hr : Rel k σ τ) (g : ∀ σ1 τ1, Rel (k + 1) σ1 τ1 → GL X Y 645 [(0, .ref Y.2.2.1), (1, rf Y.1 0), (2, rf Y.2.1 0), (3, .int x)] [] σ1 τ1) : GL X Y 412 [(0, .ref Y.2.2.1), (1, rf Y.1 0), (2, rf Y.2.1 0), (3, .int x)] [] σ τ := by
  obtain ⟨v, σ1, τ1, q1, q2, q3⟩ := hs k (Y.2.2.2.2 (Int32.toNatClampNeg (x + 1))) σ τ hk hr
  refine l_aload F (j := 1) (a := (Y.1.1 0)) dL_law_412 rfl rfl ?_
  refine l_aload F (j := 0) (a := Y.2.2.1) dL_law_413 rfl rfl ?_
  refine l_iload F (j := 3) dL_law_414 rfl rfl ?_
  refine l_iconst F (v := 1) dL_law_415 (by decide) ?_
  refine l_iadd F dL_law_416 ?_
  refine l_sld F h1 dL_law_417 ?_
  refine l_vi1 F (As := [.int (Y.2.2.2.2 (Int32.toNatClampNeg (x + 1)))]) (rest := []) (mX5_planAt N F.inj1 q1) mw_X5_planAt (inr_20 _ (List.mem_of_getElem? (i := 0) rfl)) rfl ⟨Nat.le_of_ble_eq_true rfl, Nat.le_of_ble_eq_true rfl⟩ pc0 cl5 rfl (Nat.le_of_ble_eq_true rfl) dL_law_418 ?_
  refine l_aload F (j := 2) (a := (Y.2.1.1 0)) dL_law_421 rfl rfl ?_
  refine l_aload F (j := 0) (a := Y.2.2.1) dL_law_422 rfl rfl ?_
  refine l_iload F (j := 3) dL_law_423 rfl rfl ?_
  refine l_iconst F (v := 1) dL_law_424 (by decide) ?_
  refine l_iadd F dL_law_425 ?_
  refine l_sld F h1 dL_law_426 ?_
  refine l_vi2 F (As := [.int (Y.2.2.2.2 (Int32.toNatClampNeg (x + 1)))]) (rest := [.int v]) (mX6_planAt N F.inj2 q2) mw_X6_planAt (inr_20 _ (List.mem_of_getElem? (i := 4) rfl)) rfl ⟨Nat.le_of_ble_eq_true rfl, Nat.le_of_ble_eq_true rfl⟩ pm0 cl6 rfl (Nat.le_of_ble_eq_true rfl) dL_law_427 ?_
  refine l_eq F (tgt := 645) dL_law_430 (by decide) ?_
  exact g _ _ q3
set_option maxRecDepth 20000 in
theorem law_tries {X : Cx} {Y : Lw} {N k : Nat} {Rel : Nat → SS → SS → Prop} {σ τ : SS} {x : Int32} (F : FL X Y) (h1 : vp_in (x + 1) Y.2.2.2.1) (h2 : vp_in (x + 2) Y.2.2.2.1) (h3 : vp_in (x + 3) Y.2.2.2.1) (h4 : vp_in (x + 4) Y.2.2.2.1) (h5 : vp_in (x + 5) Y.2.2.2.1) (hs : S_tries N Rel) (hk : k < 512) (hr : Rel k σ τ) (g : ∀ σ1 τ1, Rel (k + 1) σ1 τ1 → GL X Y 645 [(0, .ref Y.2.2.1), (1, rf Y.1 0), (2, rf Y.2.1 0), (3, .int x)] [] σ1 τ1) : GL X Y 435 [(0, .ref Y.2.2.1), (1, rf Y.1 0), (2, rf Y.2.1 0), (3, .int x)] [] σ τ := by
  obtain ⟨v, σ1, τ1, q1, q2, q3⟩ := hs k σ τ hk hr
  refine l_aload F (j := 1) (a := (Y.1.1 0)) dL_law_435 rfl rfl ?_
  refine l_vi1 F (As := []) (rest := []) (mX5_tries N F.inj1 q1) mw_X5_tries (inr_20 _ (List.mem_of_getElem? (i := 8) rfl)) rfl ⟨Nat.le_of_ble_eq_true rfl, Nat.le_of_ble_eq_true rfl⟩ pc0 cl5 rfl (Nat.le_of_ble_eq_true rfl) dL_law_436 ?_
  refine l_aload F (j := 2) (a := (Y.2.1.1 0)) dL_law_439 rfl rfl ?_
  refine l_vi2 F (As := []) (rest := [.int v]) (mX6_tries N F.inj2 q2) mw_X6_tries (inr_20 _ (List.mem_of_getElem? (i := 12) rfl)) rfl ⟨Nat.le_of_ble_eq_true rfl, Nat.le_of_ble_eq_true rfl⟩ pm0 cl6 rfl (Nat.le_of_ble_eq_true rfl) dL_law_440 ?_
  refine l_eq F (tgt := 645) dL_law_443 (by decide) ?_
  exact g _ _ q3
set_option maxRecDepth 20000 in
theorem law_cost {X : Cx} {Y : Lw} {N k : Nat} {Rel : Nat → SS → SS → Prop} {σ τ : SS} {x : Int32} (F : FL X Y) (h1 : vp_in (x + 1) Y.2.2.2.1) (h2 : vp_in (x + 2) Y.2.2.2.1) (h3 : vp_in (x + 3) Y.2.2.2.1) (h4 : vp_in (x + 4) Y.2.2.2.1) (h5 : vp_in (x + 5) Y.2.2.2.1) (hs : S_cost N Rel) (hk : k < 512) (hr : Rel k σ τ) (g : ∀ σ1 τ1, Rel (k + 1) σ1 τ1 → GL X Y 645 [(0, .ref Y.2.2.1), (1, rf Y.1 0), (2, rf Y.2.1 0), (3, .int x)] [] σ1 τ1) : GL X Y 448 [(0, .ref Y.2.2.1), (1, rf Y.1 0), (2, rf Y.2.1 0), (3, .int x)] [] σ τ := by
  obtain ⟨v, σ1, τ1, q1, q2, q3⟩ := hs k σ τ hk hr
  refine l_aload F (j := 1) (a := (Y.1.1 0)) dL_law_448 rfl rfl ?_
  refine l_vi1 F (As := []) (rest := []) (mX5_cost N F.inj1 q1) mw_X5_cost (inr_20 _ (List.mem_of_getElem? (i := 16) rfl)) rfl ⟨Nat.le_of_ble_eq_true rfl, Nat.le_of_ble_eq_true rfl⟩ pc0 cl5 rfl (Nat.le_of_ble_eq_true rfl) dL_law_449 ?_
  refine l_aload F (j := 2) (a := (Y.2.1.1 0)) dL_law_452 rfl rfl ?_
  refine l_vi2 F (As := []) (rest := [.int v]) (mX6_cost N F.inj2 q2) mw_X6_cost (inr_21 _ (List.mem_of_getElem? (i := 5) rfl)) rfl ⟨Nat.le_of_ble_eq_true rfl, Nat.le_of_ble_eq_true rfl⟩ pm0 cl6 rfl (Nat.le_of_ble_eq_true rfl) dL_law_453 ?_
  refine l_eq F (tgt := 645) dL_law_456 (by decide) ?_
  exact g _ _ q3
set_option maxRecDepth 20000 in
theorem law_order {X : Cx} {Y : Lw} {N k : Nat} {Rel : Nat → SS → SS → Prop} {σ τ : SS} {x : Int32} (F : FL X Y) (h1 : vp_in (x + 1) Y.2.2.2.1) (h2 : vp_in (x + 2) Y.2.2.2.1) (h3 : vp_in (x + 3) Y.2.2.2.1) (h4 : vp_in (x + 4) Y.2.2.2.1) (h5 : vp_in (x + 5) Y.2.2.2.1) (hs : S_order N Rel) (hk : k < 512) (hr : Rel k σ τ) (g : ∀ σ1 τ1, Rel (k + 1) σ1 τ1 → GL X Y 645 [(0, .ref Y.2.2.1), (1, rf Y.1 0), (2, rf Y.2.1 0), (3, .int x)] [] σ1 τ1) : GL X Y 461 [(0, .ref Y.2.2.1), (1, rf Y.1 0), (2, rf Y.2.1 0), (3, .int x)] [] σ τ := by
  obtain ⟨v, σ1, τ1, q1, q2, q3⟩ := hs k σ τ hk hr
  refine l_aload F (j := 1) (a := (Y.1.1 0)) dL_law_461 rfl rfl ?_
  refine l_vi1 F (As := []) (rest := []) (mX5_order N F.inj1 q1) mw_X5_order (inr_21 _ (List.mem_of_getElem? (i := 9) rfl)) rfl ⟨Nat.le_of_ble_eq_true rfl, Nat.le_of_ble_eq_true rfl⟩ pc0 cl5 rfl (Nat.le_of_ble_eq_true rfl) dL_law_462 ?_
  refine l_aload F (j := 2) (a := (Y.2.1.1 0)) dL_law_465 rfl rfl ?_
  refine l_vi2 F (As := []) (rest := [.int v]) (mX6_order N F.inj2 q2) mw_X6_order (inr_22 _ (List.mem_of_getElem? (i := 19) rfl)) rfl ⟨Nat.le_of_ble_eq_true rfl, Nat.le_of_ble_eq_true rfl⟩ pm0 cl6 rfl (Nat.le_of_ble_eq_true rfl) dL_law_466 ?_
  refine l_eq F (tgt := 645) dL_law_469 (by decide) ?_
  exact g _ _ q3
set_option maxRecDepth 20000 in
theorem law_orderAt {X : Cx} {Y : Lw} {N k : Nat} {Rel : Nat → SS → SS → Prop} {σ τ : SS} {x : Int32} (F : FL X Y) (h1 : vp_in (x + 1) Y.2.2.2.1) (h2 : vp_in (x + 2) Y.2.2.2.1) (h3 : vp_in (x + 3) Y.2.2.2.1) (h4 : vp_in (x + 4) Y.2.2.2.1) (h5 : vp_in (x + 5) Y.2.2.2.1) (hs : S_orderAt N Rel) (hk : k < 512) (hr : Rel k σ τ) (g : ∀ σ1 τ1, Rel (k + 1) σ1 τ1 → GL X Y 645 [(0, .ref Y.2.2.1), (1, rf Y.1 0), (2, rf Y.2.1 0), (3, .int x)] [] σ1 τ1) : GL X Y 474 [(0, .ref Y.2.2.1), (1, rf Y.1 0), (2, rf Y.2.1 0), (3, .int x)] [] σ τ := by
  obtain ⟨v, σ1, τ1, q1, q2, q3⟩ := hs k (Y.2.2.2.2 (Int32.toNatClampNeg (x + 1))) σ τ hk hr
  refine l_aload F (j := 1) (a := (Y.1.1 0)) dL_law_474 rfl rfl ?_
  refine l_aload F (j := 0) (a := Y.2.2.1) dL_law_475 rfl rfl ?_
  refine l_iload F (j := 3) dL_law_476 rfl rfl ?_
  refine l_iconst F (v := 1) dL_law_477 (by decide) ?_
  refine l_iadd F dL_law_478 ?_
  refine l_sld F h1 dL_law_479 ?_
  refine l_vi1 F (As := [.int (Y.2.2.2.2 (Int32.toNatClampNeg (x + 1)))]) (rest := []) (mX5_orderAt N F.inj1 q1) mw_X5_orderAt (inr_23 _ (List.mem_of_getElem? (i := 7) rfl)) rfl ⟨Nat.le_of_ble_eq_true rfl, Nat.le_of_ble_eq_true rfl⟩ pc0 cl5 rfl (Nat.le_of_ble_eq_true rfl) dL_law_480 ?_
  refine l_aload F (j := 2) (a := (Y.2.1.1 0)) dL_law_483 rfl rfl ?_
  refine l_aload F (j := 0) (a := Y.2.2.1) dL_law_484 rfl rfl ?_
  refine l_iload F (j := 3) dL_law_485 rfl rfl ?_
  refine l_iconst F (v := 1) dL_law_486 (by decide) ?_
  refine l_iadd F dL_law_487 ?_
  refine l_sld F h1 dL_law_488 ?_
  refine l_vi2 F (As := [.int (Y.2.2.2.2 (Int32.toNatClampNeg (x + 1)))]) (rest := [.int v]) (mX6_orderAt N F.inj2 q2) mw_X6_orderAt (inr_23 _ (List.mem_of_getElem? (i := 13) rfl)) rfl ⟨Nat.le_of_ble_eq_true rfl, Nat.le_of_ble_eq_true rfl⟩ pm0 cl6 rfl (Nat.le_of_ble_eq_true rfl) dL_law_489 ?_
  refine l_eq F (tgt := 645) dL_law_492 (by decide) ?_
  exact g _ _ q3
set_option maxRecDepth 20000 in
theorem law_third {X : Cx} {Y : Lw} {N k : Nat} {Rel : Nat → SS → SS → Prop} {σ τ : SS} {x : Int32} (F : FL X Y) (h1 : vp_in (x + 1) Y.2.2.2.1) (h2 : vp_in (x + 2) Y.2.2.2.1) (h3 : vp_in (x + 3) Y.2.2.2.1) (h4 : vp_in (x + 4) Y.2.2.2.1) (h5 : vp_in (x + 5) Y.2.2.2.1) (hs : S_third N Rel) (hk : k < 512) (hr : Rel k σ τ) (g : ∀ σ1 τ1, Rel (k + 1) σ1 τ1 → GL X Y 645 [(0, .ref Y.2.2.1), (1, rf Y.1 0), (2, rf Y.2.1 0), (3, .int x)] [] σ1 τ1) : GL X Y 497 [(0, .ref Y.2.2.1), (1, rf Y.1 0), (2, rf Y.2.1 0), (3, .int x)] [] σ τ := by
  obtain ⟨v, σ1, τ1, q1, q2, q3⟩ := hs k σ τ hk hr
  refine l_aload F (j := 1) (a := (Y.1.1 0)) dL_law_497 rfl rfl ?_
  refine l_vi1 F (As := []) (rest := []) (mX5_third N F.inj1 q1) mw_X5_third (inr_23 _ (List.mem_of_getElem? (i := 21) rfl)) rfl ⟨Nat.le_of_ble_eq_true rfl, Nat.le_of_ble_eq_true rfl⟩ pc0 cl5 rfl (Nat.le_of_ble_eq_true rfl) dL_law_498 ?_
  refine l_aload F (j := 2) (a := (Y.2.1.1 0)) dL_law_501 rfl rfl ?_
  refine l_vi2 F (As := []) (rest := [.int v]) (mX6_third N F.inj2 q2) mw_X6_third (inr_24 _ (List.mem_of_getElem? (i := 14) rfl)) rfl ⟨Nat.le_of_ble_eq_true rfl, Nat.le_of_ble_eq_true rfl⟩ pm0 cl6 rfl (Nat.le_of_ble_eq_true rfl) dL_law_502 ?_
  refine l_eq F (tgt := 645) dL_law_505 (by decide) ?_
  exact g _ _ q3
set_option maxRecDepth 20000 in
theorem law_byStop {X : Cx} {Y : Lw} {N k : Nat} {Rel : Nat → SS → SS → Prop} {σ τ : SS} {x : Int32} (F : FL X Y) (h1 : vp_in (x + 1) Y.2.2.2.1) (h2 : vp_in (x + 2) Y.2.2.2.1) (h3 : vp_in (x + 3) Y.2.2.2.1) (h4 : vp_in (x + 4) Y.2.2.2.1) (h5 : vp_in (x + 5) Y.2.2.2.1) (hs : S_byStop N Rel) (hk : k < 512) (hr : Rel k σ τ) (g : ∀ σ1 τ1, Rel (k + 1) σ1 τ1 → GL X Y 645 [(0, .ref Y.2.2.1), (1, rf Y.1 0), (2, rf Y.2.1 0), (3, .int x)] [] σ1 τ1) : GL X Y 510 [(0, .ref Y.2.2.1), (1, rf Y.1 0), (2, rf Y.2.1 0), (3, .int x)] [] σ τ := by
  obtain ⟨v, σ1, τ1, q1, q2, q3⟩ := hs k σ τ hk hr
  refine l_aload F (j := 1) (a := (Y.1.1 0)) dL_law_510 rfl rfl ?_
  refine l_vi1 F (As := []) (rest := []) (mX5_byStop N F.inj1 q1) mw_X5_byStop (inr_24 _ (List.mem_of_getElem? (i := 23) rfl)) rfl ⟨Nat.le_of_ble_eq_true rfl, Nat.le_of_ble_eq_true rfl⟩ pc0 cl5 rfl (Nat.le_of_ble_eq_true rfl) dL_law_511 ?_
  refine l_aload F (j := 2) (a := (Y.2.1.1 0)) dL_law_514 rfl rfl ?_
  refine l_vi2 F (As := []) (rest := [.int v]) (mX6_byStop N F.inj2 q2) mw_X6_byStop (inr_25 _ (List.mem_of_getElem? (i := 16) rfl)) rfl ⟨Nat.le_of_ble_eq_true rfl, Nat.le_of_ble_eq_true rfl⟩ pm0 cl6 rfl (Nat.le_of_ble_eq_true rfl) dL_law_515 ?_
  refine l_eq F (tgt := 645) dL_law_518 (by decide) ?_
  exact g _ _ q3
set_option maxRecDepth 20000 in
theorem law_step {X : Cx} {Y : Lw} {N k : Nat} {Rel : Nat → SS → SS → Prop} {σ τ : SS} {x : Int32} (F : FL X Y) (h1 : vp_in (x + 1) Y.2.2.2.1) (h2 : vp_in (x + 2) Y.2.2.2.1) (h3 : vp_in (x + 3) Y.2.2.2.1) (h4 : vp_in (x + 4) Y.2.2.2.1) (h5 : vp_in (x + 5) Y.2.2.2.1) (hs : S_step N Rel) (hk : k < 512) (hr : Rel k σ τ) (g : ∀ σ1 τ1, Rel (k + 1) σ1 τ1 → GL X Y 645 [(0, .ref Y.2.2.1), (1, rf Y.1 0), (2, rf Y.2.1 0), (3, .int x)] [] σ1 τ1) : GL X Y 523 [(0, .ref Y.2.2.1), (1, rf Y.1 0), (2, rf Y.2.1 0), (3, .int x)] [] σ τ := by
  refine l_aload F (j := 1) (a := (Y.1.1 0)) dL_law_523 rfl rfl ?_
  refine l_aload F (j := 0) (a := Y.2.2.1) dL_law_524 rfl rfl ?_
  refine l_iload F (j := 3) dL_law_525 rfl rfl ?_
  refine l_iconst F (v := 1) dL_law_526 (by decide) ?_
  refine l_iadd F dL_law_527 ?_
  refine l_sld F h1 dL_law_528 ?_
  by_cases hz : (Y.2.2.2.2 (Int32.toNatClampNeg (x + 1))) = 0
  · obtain ⟨v, σ1, τ1, q1, q2, q3⟩ := hs k 0 σ τ hk (Or.inl rfl) hr
    refine l_ifT F (tgt := 536) dL_law_529 (by decide) hz ?_
    refine l_iconst F (v := 0) dL_law_536 (by decide) ?_
    refine l_vi1 F (As := [.int 0]) (rest := []) (mX5_step N F.inj1 q1) mw_X5_step (inr_25 _ (List.mem_of_getElem? (i := 20) rfl)) rfl ⟨Nat.le_of_ble_eq_true rfl, Nat.le_of_ble_eq_true rfl⟩ pc0 cl5 rfl (Nat.le_of_ble_eq_true rfl) dL_law_537 ?_
    refine l_aload F (j := 2) (a := (Y.2.1.1 0)) dL_law_540 rfl rfl ?_
    refine l_aload F (j := 0) (a := Y.2.2.1) dL_law_541 rfl rfl ?_
    refine l_iload F (j := 3) dL_law_542 rfl rfl ?_
    refine l_iconst F (v := 1) dL_law_543 (by decide) ?_
    refine l_iadd F dL_law_544 ?_
    refine l_sld F h1 dL_law_545 ?_
    refine l_ifT F (tgt := 553) dL_law_546 (by decide) hz ?_
    refine l_iconst F (v := 0) dL_law_553 (by decide) ?_
    refine l_vi2 F (As := [.int 0]) (rest := [.int v]) (mX6_step N F.inj2 q2) mw_X6_step (inr_26 _ (List.mem_of_getElem? (i := 0) rfl)) rfl ⟨Nat.le_of_ble_eq_true rfl, Nat.le_of_ble_eq_true rfl⟩ pm0 cl6 rfl (Nat.le_of_ble_eq_true rfl) dL_law_554 ?_
    refine l_eq F (tgt := 645) dL_law_557 (by decide) ?_
    exact g _ _ q3
  · obtain ⟨v, σ1, τ1, q1, q2, q3⟩ := hs k 1 σ τ hk (Or.inr rfl) hr
    refine l_ifF F (tgt := 536) dL_law_529 (by decide) hz ?_
    refine l_iconst F (v := 1) dL_law_532 (by decide) ?_
    refine l_goto F (tgt := 537) dL_law_533 (by decide) ?_
    refine l_vi1 F (As := [.int 1]) (rest := []) (mX5_step N F.inj1 q1) mw_X5_step (inr_25 _ (List.mem_of_getElem? (i := 20) rfl)) rfl ⟨Nat.le_of_ble_eq_true rfl, Nat.le_of_ble_eq_true rfl⟩ pc0 cl5 rfl (Nat.le_of_ble_eq_true rfl) dL_law_537 ?_
    refine l_aload F (j := 2) (a := (Y.2.1.1 0)) dL_law_540 rfl rfl ?_
    refine l_aload F (j := 0) (a := Y.2.2.1) dL_law_541 rfl rfl ?_
    refine l_iload F (j := 3) dL_law_542 rfl rfl ?_
    refine l_iconst F (v := 1) dL_law_543 (by decide) ?_
    refine l_iadd F dL_law_544 ?_
    refine l_sld F h1 dL_law_545 ?_
    refine l_ifF F (tgt := 553) dL_law_546 (by decide) hz ?_
    refine l_iconst F (v := 1) dL_law_549 (by decide) ?_
    refine l_goto F (tgt := 554) dL_law_550 (by decide) ?_
    refine l_vi2 F (As := [.int 1]) (rest := [.int v]) (mX6_step N F.inj2 q2) mw_X6_step (inr_26 _ (List.mem_of_getElem? (i := 0) rfl)) rfl ⟨Nat.le_of_ble_eq_true rfl, Nat.le_of_ble_eq_true rfl⟩ pm0 cl6 rfl (Nat.le_of_ble_eq_true rfl) dL_law_554 ?_
    refine l_eq F (tgt := 645) dL_law_557 (by decide) ?_
    exact g _ _ q3
set_option maxRecDepth 20000 in
theorem law_tick {X : Cx} {Y : Lw} {N k : Nat} {Rel : Nat → SS → SS → Prop} {σ τ : SS} {x : Int32} (F : FL X Y) (h1 : vp_in (x + 1) Y.2.2.2.1) (h2 : vp_in (x + 2) Y.2.2.2.1) (h3 : vp_in (x + 3) Y.2.2.2.1) (h4 : vp_in (x + 4) Y.2.2.2.1) (h5 : vp_in (x + 5) Y.2.2.2.1) (hs : S_tick N Rel) (hk : k < 512) (hr : Rel k σ τ) (g : ∀ σ1 τ1, Rel (k + 1) σ1 τ1 → GL X Y 645 [(0, .ref Y.2.2.1), (1, rf Y.1 0), (2, rf Y.2.1 0), (3, .int x)] [] σ1 τ1) : GL X Y 562 [(0, .ref Y.2.2.1), (1, rf Y.1 0), (2, rf Y.2.1 0), (3, .int x)] [] σ τ := by
  obtain ⟨v, σ1, τ1, q1, q2, q3⟩ := hs k (Y.2.2.2.2 (Int32.toNatClampNeg (x + 1))) σ τ hk hr
  refine l_aload F (j := 1) (a := (Y.1.1 0)) dL_law_562 rfl rfl ?_
  refine l_aload F (j := 0) (a := Y.2.2.1) dL_law_563 rfl rfl ?_
  refine l_iload F (j := 3) dL_law_564 rfl rfl ?_
  refine l_iconst F (v := 1) dL_law_565 (by decide) ?_
  refine l_iadd F dL_law_566 ?_
  refine l_sld F h1 dL_law_567 ?_
  refine l_vi1 F (As := [.int (Y.2.2.2.2 (Int32.toNatClampNeg (x + 1)))]) (rest := []) (mX5_tick N F.inj1 q1) mw_X5_tick (inr_26 _ (List.mem_of_getElem? (i := 4) rfl)) rfl ⟨Nat.le_of_ble_eq_true rfl, Nat.le_of_ble_eq_true rfl⟩ pc0 cl5 rfl (Nat.le_of_ble_eq_true rfl) dL_law_568 ?_
  refine l_aload F (j := 2) (a := (Y.2.1.1 0)) dL_law_571 rfl rfl ?_
  refine l_aload F (j := 0) (a := Y.2.2.1) dL_law_572 rfl rfl ?_
  refine l_iload F (j := 3) dL_law_573 rfl rfl ?_
  refine l_iconst F (v := 1) dL_law_574 (by decide) ?_
  refine l_iadd F dL_law_575 ?_
  refine l_sld F h1 dL_law_576 ?_
  refine l_vi2 F (As := [.int (Y.2.2.2.2 (Int32.toNatClampNeg (x + 1)))]) (rest := [.int v]) (mX6_tick N F.inj2 q2) mw_X6_tick (inr_26 _ (List.mem_of_getElem? (i := 10) rfl)) rfl ⟨Nat.le_of_ble_eq_true rfl, Nat.le_of_ble_eq_true rfl⟩ pm0 cl6 rfl (Nat.le_of_ble_eq_true rfl) dL_law_577 ?_
  refine l_eq F (tgt := 645) dL_law_580 (by decide) ?_
  exact g _ _ q3
set_option maxRecDepth 20000 in
theorem law_wait {X : Cx} {Y : Lw} {N k : Nat} {Rel : Nat → SS → SS → Prop} {σ τ : SS} {x : Int32} (F : FL X Y) (h1 : vp_in (x + 1) Y.2.2.2.1) (h2 : vp_in (x + 2) Y.2.2.2.1) (h3 : vp_in (x + 3) Y.2.2.2.1) (h4 : vp_in (x + 4) Y.2.2.2.1) (h5 : vp_in (x + 5) Y.2.2.2.1) (hs : S_wait N Rel) (hk : k < 512) (hr : Rel k σ τ) (g : ∀ σ1 τ1, Rel (k + 1) σ1 τ1 → GL X Y 645 [(0, .ref Y.2.2.1), (1, rf Y.1 0), (2, rf Y.2.1 0), (3, .int x)] [] σ1 τ1) : GL X Y 585 [(0, .ref Y.2.2.1), (1, rf Y.1 0), (2, rf Y.2.1 0), (3, .int x)] [] σ τ := by
  obtain ⟨v, σ1, τ1, q1, q2, q3⟩ := hs k (Y.2.2.2.2 (Int32.toNatClampNeg (x + 1))) σ τ hk hr
  refine l_aload F (j := 1) (a := (Y.1.1 0)) dL_law_585 rfl rfl ?_
  refine l_aload F (j := 0) (a := Y.2.2.1) dL_law_586 rfl rfl ?_
  refine l_iload F (j := 3) dL_law_587 rfl rfl ?_
  refine l_iconst F (v := 1) dL_law_588 (by decide) ?_
  refine l_iadd F dL_law_589 ?_
  refine l_sld F h1 dL_law_590 ?_
  refine l_vi1 F (As := [.int (Y.2.2.2.2 (Int32.toNatClampNeg (x + 1)))]) (rest := []) (mX5_wait N F.inj1 q1) mw_X5_wait (inr_26 _ (List.mem_of_getElem? (i := 14) rfl)) rfl ⟨Nat.le_of_ble_eq_true rfl, Nat.le_of_ble_eq_true rfl⟩ pc0 cl5 rfl (Nat.le_of_ble_eq_true rfl) dL_law_591 ?_
  refine l_aload F (j := 2) (a := (Y.2.1.1 0)) dL_law_594 rfl rfl ?_
  refine l_aload F (j := 0) (a := Y.2.2.1) dL_law_595 rfl rfl ?_
  refine l_iload F (j := 3) dL_law_596 rfl rfl ?_
  refine l_iconst F (v := 1) dL_law_597 (by decide) ?_
  refine l_iadd F dL_law_598 ?_
  refine l_sld F h1 dL_law_599 ?_
  refine l_vi2 F (As := [.int (Y.2.2.2.2 (Int32.toNatClampNeg (x + 1)))]) (rest := [.int v]) (mX6_wait N F.inj2 q2) mw_X6_wait (inr_27 _ (List.mem_of_getElem? (i := 12) rfl)) rfl ⟨Nat.le_of_ble_eq_true rfl, Nat.le_of_ble_eq_true rfl⟩ pm0 cl6 rfl (Nat.le_of_ble_eq_true rfl) dL_law_600 ?_
  refine l_eq F (tgt := 645) dL_law_603 (by decide) ?_
  exact g _ _ q3
set_option maxRecDepth 20000 in
theorem law_count {X : Cx} {Y : Lw} {N k : Nat} {Rel : Nat → SS → SS → Prop} {σ τ : SS} {x : Int32} (F : FL X Y) (h1 : vp_in (x + 1) Y.2.2.2.1) (h2 : vp_in (x + 2) Y.2.2.2.1) (h3 : vp_in (x + 3) Y.2.2.2.1) (h4 : vp_in (x + 4) Y.2.2.2.1) (h5 : vp_in (x + 5) Y.2.2.2.1) (hs : S_count N Rel) (hk : k < 512) (hr : Rel k σ τ) (g : ∀ σ1 τ1, Rel (k + 1) σ1 τ1 → GL X Y 645 [(0, .ref Y.2.2.1), (1, rf Y.1 0), (2, rf Y.2.1 0), (3, .int x)] [] σ1 τ1) : GL X Y 608 [(0, .ref Y.2.2.1), (1, rf Y.1 0), (2, rf Y.2.1 0), (3, .int x)] [] σ τ := by
  obtain ⟨v, σ1, τ1, q1, q2, q3⟩ := hs k (Y.2.2.2.2 (Int32.toNatClampNeg (x + 1))) σ τ hk hr
  refine l_aload F (j := 1) (a := (Y.1.1 0)) dL_law_608 rfl rfl ?_
  refine l_aload F (j := 0) (a := Y.2.2.1) dL_law_609 rfl rfl ?_
  refine l_iload F (j := 3) dL_law_610 rfl rfl ?_
  refine l_iconst F (v := 1) dL_law_611 (by decide) ?_
  refine l_iadd F dL_law_612 ?_
  refine l_sld F h1 dL_law_613 ?_
  refine l_vi1 F (As := [.int (Y.2.2.2.2 (Int32.toNatClampNeg (x + 1)))]) (rest := []) (mX5_count N F.inj1 q1) mw_X5_count (inr_27 _ (List.mem_of_getElem? (i := 22) rfl)) rfl ⟨Nat.le_of_ble_eq_true rfl, Nat.le_of_ble_eq_true rfl⟩ pc0 cl5 rfl (Nat.le_of_ble_eq_true rfl) dL_law_614 ?_
  refine l_aload F (j := 2) (a := (Y.2.1.1 0)) dL_law_617 rfl rfl ?_
  refine l_aload F (j := 0) (a := Y.2.2.1) dL_law_618 rfl rfl ?_
  refine l_iload F (j := 3) dL_law_619 rfl rfl ?_
  refine l_iconst F (v := 1) dL_law_620 (by decide) ?_
  refine l_iadd F dL_law_621 ?_
  refine l_sld F h1 dL_law_622 ?_
  refine l_vi2 F (As := [.int (Y.2.2.2.2 (Int32.toNatClampNeg (x + 1)))]) (rest := [.int v]) (mX6_count N F.inj2 q2) mw_X6_count (inr_28 _ (List.mem_of_getElem? (i := 7) rfl)) rfl ⟨Nat.le_of_ble_eq_true rfl, Nat.le_of_ble_eq_true rfl⟩ pm0 cl6 rfl (Nat.le_of_ble_eq_true rfl) dL_law_623 ?_
  refine l_eq F (tgt := 645) dL_law_626 (by decide) ?_
  exact g _ _ q3
set_option maxRecDepth 20000 in
theorem law_digest {X : Cx} {Y : Lw} {N k : Nat} {Rel : Nat → SS → SS → Prop} {σ τ : SS} {x : Int32} (F : FL X Y) (h1 : vp_in (x + 1) Y.2.2.2.1) (h2 : vp_in (x + 2) Y.2.2.2.1) (h3 : vp_in (x + 3) Y.2.2.2.1) (h4 : vp_in (x + 4) Y.2.2.2.1) (h5 : vp_in (x + 5) Y.2.2.2.1) (hs : S_digest N Rel) (hk : k < 512) (hr : Rel k σ τ) (g : ∀ σ1 τ1, Rel (k + 1) σ1 τ1 → GL X Y 645 [(0, .ref Y.2.2.1), (1, rf Y.1 0), (2, rf Y.2.1 0), (3, .int x)] [] σ1 τ1) : GL X Y 631 [(0, .ref Y.2.2.1), (1, rf Y.1 0), (2, rf Y.2.1 0), (3, .int x)] [] σ τ := by
  obtain ⟨v, σ1, τ1, q1, q2, q3⟩ := hs k σ τ hk hr
  refine l_aload F (j := 1) (a := (Y.1.1 0)) dL_law_631 rfl rfl ?_
  refine l_vl1 F (As := []) (rest := []) (mX5_digest N F.inj1 q1) mw_X5_digest (inr_28 _ (List.mem_of_getElem? (i := 11) rfl)) rfl ⟨Nat.le_of_ble_eq_true rfl, Nat.le_of_ble_eq_true rfl⟩ pc0 cl5 rfl (Nat.le_of_ble_eq_true rfl) dL_law_632 ?_
  refine l_aload F (j := 2) (a := (Y.2.1.1 0)) dL_law_635 rfl rfl ?_
  refine l_vl2 F (As := []) (rest := [.long v]) (mX6_digest N F.inj2 q2) mw_X6_digest (inr_28 _ (List.mem_of_getElem? (i := 21) rfl)) rfl ⟨Nat.le_of_ble_eq_true rfl, Nat.le_of_ble_eq_true rfl⟩ pm0 cl6 rfl (Nat.le_of_ble_eq_true rfl) dL_law_636 ?_
  refine l_lcmp F dL_law_639 ?_
  refine l_ifT F (tgt := 645) dL_law_640 (by decide) (lg_cmp_self _) ?_
  exact g _ _ q3
set_option maxRecDepth 20000 in
theorem law_loop {X : Cx} {Y : Lw} {N : Nat} {Rel : Nat → SS → SS → Prop} (F : FL X Y) (hL : Y.2.2.2.1 ≤ 3072) (hS : Sim N Rel) (hup : ∀ k σ τ, k < 512 → Rel k σ τ → Rel (k + 1) σ τ) (hret : ∀ pc lv σ τ, decode cL_law pc = .ok (.ireturn, 1) → GL X Y pc lv [.int 1] σ τ) : ∀ (n k : Nat), k ≤ 512 → 513 ≤ k + n → ∀ σ τ, Rel k σ τ → GL X Y 18 [(0, .ref Y.2.2.1), (1, rf Y.1 0), (2, rf Y.2.1 0), (3, .int (J (6 * (k : Int))))] [] σ τ := by
  intro n
  induction n with
  | zero => intro k h1 h2; exact absurd h2 (by omega)
  | succ n ih =>
    intro k hk hn σ τ hr
    refine l_iload F (j := 3) dL_law_18 rfl rfl ?_
    refine l_aload F (j := 0) (a := Y.2.2.1) dL_law_19 rfl rfl ?_
    refine l_len F dL_law_20 ?_
    refine l_bipush F (v := 6) dL_law_21 (by decide) ?_
    refine l_isub F dL_law_23 ?_
    have eL : Int32.ofNat Y.2.2.2.1 - 6 = J ((Y.2.2.2.1 : Int) - 6) := by
      rw [J6, show Int32.ofNat Y.2.2.2.1 = J (Y.2.2.2.1 : Int) from (Int32.ofInt_eq_ofNat (n := Y.2.2.2.1)).symm, J_sub]
    rw [eL]
    refine l_gt F (tgt := 651) dL_law_24 (by decide) (fun _ => ?_) (fun q => ?_)
    · refine l_iconst F (v := 1) dL_law_651 (by decide) ?_
      exact hret _ _ _ _ dL_law_652
    · rw [J_lt (by omega) (by omega) (by omega) (by omega)] at q
      have hk2 : k < 512 := by omega
      have h0 : vp_in (J (6 * (k : Int))) Y.2.2.2.1 := J_in (by omega) (by omega) (by omega)
      have hh : ∀ j : Int, 0 ≤ j → j < 6 → vp_in (J (6 * (k : Int)) + J j) Y.2.2.2.1 := fun j h1 h2 => by rw [J_add]; exact J_in (by omega) (by omega) (by omega)
      have h1 := hh 1 (by omega) (by omega)
      have h2 := hh 2 (by omega) (by omega)
      have h3 := hh 3 (by omega) (by omega)
      have h4 := hh 4 (by omega) (by omega)
      have h5 := hh 5 (by omega) (by omega)
      have g : ∀ σ1 τ1, Rel (k + 1) σ1 τ1 → GL X Y 645 [(0, .ref Y.2.2.1), (1, rf Y.1 0), (2, rf Y.2.1 0), (3, .int (J (6 * (k : Int))))] [] σ1 τ1 := by
        intro σ1 τ1 hr1
        refine l_iinc F (j := 3) (v := J (6 * ((k + 1 : Nat) : Int))) dL_law_645 rfl (by rw [show Int32.ofInt 6 = J 6 from rfl, J_add]; exact congrArg J (by omega)) (by decide) (lv' := [(0, .ref Y.2.2.1), (1, rf Y.1 0), (2, rf Y.2.1 0), (3, .int (J (6 * ((k + 1 : Nat) : Int))))]) [1, 2, 3, 0] rfl ?_
        refine l_goto F (tgt := 18) dL_law_648 (by decide) ?_
        exact ih (k + 1) (by omega) (by omega) σ1 τ1 hr1
      obtain ⟨s0, s1, s2, s3, s4, s5, s6, s7, s8, s9, s10, s11, s12, s13, s14, s15, s16, s17, s18, s19⟩ := hS
      refine l_aload F (j := 0) (a := Y.2.2.1) dL_law_27 rfl rfl ?_
      refine l_iload F (j := 3) dL_law_28 rfl rfl ?_
      refine l_sld F h0 dL_law_29 ?_
      refine l_bipush F (v := 31) dL_law_30 (by decide) ?_
      refine l_iand F dL_law_32 ?_
      generalize Y.2.2.2.2 (Int32.toNatClampNeg (J (6 * (k : Int)))) &&& 31 = z
      by_cases c0 : z = 0
      · exact l_tabIn F (tgt := 128) (off := 95) dL_law_33 (by rw [c0]; decide) (by rw [c0]; decide) (by rw [c0]; rfl) (by decide) (law_machine F h1 h2 h3 h4 h5 s0 hk2 hr g)
      by_cases c1 : z = 1
      · exact l_tabIn F (tgt := 161) (off := 128) dL_law_33 (by rw [c1]; decide) (by rw [c1]; decide) (by rw [c1]; rfl) (by decide) (law_work F h1 h2 h3 h4 h5 s1 hk2 hr g)
      by_cases c2 : z = 2
      · exact l_tabIn F (tgt := 224) (off := 191) dL_law_33 (by rw [c2]; decide) (by rw [c2]; decide) (by rw [c2]; rfl) (by decide) (law_move F h1 h2 h3 h4 h5 s2 hk2 hr g)
      by_cases c3 : z = 3
      · exact l_tabIn F (tgt := 257) (off := 224) dL_law_33 (by rw [c3]; decide) (by rw [c3]; decide) (by rw [c3]; rfl) (by decide) (law_price F h1 h2 h3 h4 h5 s3 hk2 hr g)
      by_cases c4 : z = 4
      · exact l_tabIn F (tgt := 280) (off := 247) dL_law_33 (by rw [c4]; decide) (by rw [c4]; decide) (by rw [c4]; rfl) (by decide) (law_about F h1 h2 h3 h4 h5 s4 hk2 hr g)
      by_cases c5 : z = 5
      · exact l_tabIn F (tgt := 313) (off := 280) dL_law_33 (by rw [c5]; decide) (by rw [c5]; decide) (by rw [c5]; rfl) (by decide) (law_free F h1 h2 h3 h4 h5 s5 hk2 hr g)
      by_cases c6 : z = 6
      · exact l_tabIn F (tgt := 346) (off := 313) dL_law_33 (by rw [c6]; decide) (by rw [c6]; decide) (by rw [c6]; rfl) (by decide) (law_fewest F h1 h2 h3 h4 h5 s6 hk2 hr g)
      by_cases c7 : z = 7
      · exact l_tabIn F (tgt := 359) (off := 326) dL_law_33 (by rw [c7]; decide) (by rw [c7]; decide) (by rw [c7]; rfl) (by decide) (law_plan F h1 h2 h3 h4 h5 s7 hk2 hr g)
      by_cases c8 : z = 8
      · exact l_tabIn F (tgt := 412) (off := 379) dL_law_33 (by rw [c8]; decide) (by rw [c8]; decide) (by rw [c8]; rfl) (by decide) (law_planAt F h1 h2 h3 h4 h5 s8 hk2 hr g)
      by_cases c9 : z = 9
      · exact l_tabIn F (tgt := 435) (off := 402) dL_law_33 (by rw [c9]; decide) (by rw [c9]; decide) (by rw [c9]; rfl) (by decide) (law_tries F h1 h2 h3 h4 h5 s9 hk2 hr g)
      by_cases c10 : z = 10
      · exact l_tabIn F (tgt := 448) (off := 415) dL_law_33 (by rw [c10]; decide) (by rw [c10]; decide) (by rw [c10]; rfl) (by decide) (law_cost F h1 h2 h3 h4 h5 s10 hk2 hr g)
      by_cases c11 : z = 11
      · exact l_tabIn F (tgt := 461) (off := 428) dL_law_33 (by rw [c11]; decide) (by rw [c11]; decide) (by rw [c11]; rfl) (by decide) (law_order F h1 h2 h3 h4 h5 s11 hk2 hr g)
      by_cases c12 : z = 12
      · exact l_tabIn F (tgt := 474) (off := 441) dL_law_33 (by rw [c12]; decide) (by rw [c12]; decide) (by rw [c12]; rfl) (by decide) (law_orderAt F h1 h2 h3 h4 h5 s12 hk2 hr g)
      by_cases c13 : z = 13
      · exact l_tabIn F (tgt := 497) (off := 464) dL_law_33 (by rw [c13]; decide) (by rw [c13]; decide) (by rw [c13]; rfl) (by decide) (law_third F h1 h2 h3 h4 h5 s13 hk2 hr g)
      by_cases c14 : z = 14
      · exact l_tabIn F (tgt := 510) (off := 477) dL_law_33 (by rw [c14]; decide) (by rw [c14]; decide) (by rw [c14]; rfl) (by decide) (law_byStop F h1 h2 h3 h4 h5 s14 hk2 hr g)
      by_cases c15 : z = 15
      · exact l_tabIn F (tgt := 523) (off := 490) dL_law_33 (by rw [c15]; decide) (by rw [c15]; decide) (by rw [c15]; rfl) (by decide) (law_step F h1 h2 h3 h4 h5 s15 hk2 hr g)
      by_cases c16 : z = 16
      · exact l_tabIn F (tgt := 562) (off := 529) dL_law_33 (by rw [c16]; decide) (by rw [c16]; decide) (by rw [c16]; rfl) (by decide) (law_tick F h1 h2 h3 h4 h5 s16 hk2 hr g)
      by_cases c17 : z = 17
      · exact l_tabIn F (tgt := 585) (off := 552) dL_law_33 (by rw [c17]; decide) (by rw [c17]; decide) (by rw [c17]; rfl) (by decide) (law_wait F h1 h2 h3 h4 h5 s17 hk2 hr g)
      by_cases c18 : z = 18
      · exact l_tabIn F (tgt := 608) (off := 575) dL_law_33 (by rw [c18]; decide) (by rw [c18]; decide) (by rw [c18]; rfl) (by decide) (law_count F h1 h2 h3 h4 h5 s18 hk2 hr g)
      by_cases c19 : z = 19
      · exact l_tabIn F (tgt := 631) (off := 598) dL_law_33 (by rw [c19]; decide) (by rw [c19]; decide) (by rw [c19]; rfl) (by decide) (law_digest F h1 h2 h3 h4 h5 s19 hk2 hr g)
      refine l_tabOut F (tgt := 645) dL_law_33 (tab_out_20 c0 c1 c2 c3 c4 c5 c6 c7 c8 c9 c10 c11 c12 c13 c14 c15 c16 c17 c18 c19) (by decide) ?_
      exact g _ _ (hup k σ τ hk2 hr)
