theorem TL_L_law_18 {G : WG} {post : PO} {o1 : Nat} {o2 : Nat} {k : AH → Int32 → Option (Int32 × AH)} (hk : ∀ (h : AH) (x3 : Int32), OkA (k h x3) (fun q => post (some q.1) q.2) → Rn G M_L_law (158, 2178) 880 [(0, .ref (gB G)), (1, .ref (ad G o1)), (2, .ref (ad G o2)), (3, .int x3)] [] h post) : ∀ (n : Nat) (h : AH) (x3 : Int32), OkA (L_L_law_18 (gLn G) (gXs G) o1 o2 k n h x3) (fun q => post (some q.1) q.2) → Rn G M_L_law (158, 2178) 18 [(0, .ref (gB G)), (1, .ref (ad G o1)), (2, .ref (ad G o2)), (3, .int x3)] [] h post := by
  intro n
  induction n with
  | zero => intro _ _ hf; exact absurd hf ok_none
  | succ n ih =>
    intro h x3 hf
    refine rn_iload_n 19 dL_law_18 rfl rfl ?_
    refine rn_aload_n 20 dL_law_19 rfl rfl ?_
    refine rn_scrLen 21 dL_law_20 rfl ?_
    refine rn_iconst 22 dL_law_21 rfl ic_5 ?_
    refine rn_isub 23 dL_law_22 rfl ?_
    refine ro_icmp_gt 880 26 dL_law_23 rfl rfl hf (fun hf => ?_) (fun hf => ?_)
    · exact hk _ _ hf
    · refine rn_aload_n 27 dL_law_26 rfl rfl ?_
      refine rn_iload_n 28 dL_law_27 rfl rfl ?_
      refine ro_scr 29 dL_law_28 rfl hf (fun v1 hf => ?_)
      refine rn_bipush 31 dL_law_29 rfl bp_31 ?_
      refine rn_iand 32 dL_law_31 rfl ?_
      refine ro_arm hf (fun z0 hf => ?_) (fun z0 hf => ?_)
      · refine rn_tabIn 160 dL_law_32 (by rw [z0]; decide) (by rw [z0]; decide) (by rw [z0]; rfl) rfl ?_
        refine rn_aload_n 161 dL_law_160 rfl rfl ?_
        refine rn_aload_n 162 dL_law_161 rfl rfl ?_
        refine rn_iload_n 163 dL_law_162 rfl rfl ?_
        refine rn_iconst 164 dL_law_163 rfl ic_1 ?_
        refine rn_iadd 165 dL_law_164 rfl ?_
        refine ro_scr 166 dL_law_165 rfl hf (fun v2 hf => ?_)
        refine ro_cVi (M' := M_X4_write) (As := [.int v2]) (o := o1) (st := []) 169 (158, 2178) dL_law_166 rfl l_L_13 v_X4_write ⟨Nat.le_of_ble_eq_true rfl, Nat.le_of_ble_eq_true rfl⟩ rfl rfl (Nat.le_of_ble_eq_true rfl) (Nat.le_of_ble_eq_true rfl) ⟨rfl, Nat.le_of_ble_eq_true rfl, Nat.le_of_ble_eq_true rfl⟩ hf (fun X z => ok_ck z) rfl (fun X z => T_X4_write z) (fun q3 hf => ?_)
        refine rn_aload_n 170 dL_law_169 rfl rfl ?_
        refine rn_aload_n 171 dL_law_170 rfl rfl ?_
        refine rn_iload_n 172 dL_law_171 rfl rfl ?_
        refine rn_iconst 173 dL_law_172 rfl ic_1 ?_
        refine rn_iadd 174 dL_law_173 rfl ?_
        refine ro_scr 175 dL_law_174 rfl hf (fun v4 hf => ?_)
        refine ro_cVi (M' := M_X5_write) (As := [.int v4]) (o := o2) (st := [.int q3.1]) 178 (158, 2178) dL_law_175 rfl l_L_17 v_X5_write ⟨Nat.le_of_ble_eq_true rfl, Nat.le_of_ble_eq_true rfl⟩ rfl rfl (Nat.le_of_ble_eq_true rfl) (Nat.le_of_ble_eq_true rfl) ⟨rfl, Nat.le_of_ble_eq_true rfl, Nat.le_of_ble_eq_true rfl⟩ hf (fun X z => ok_ck z) rfl (fun X z => T_X5_write z) (fun q5 hf => ?_)
        refine ro_icmp_eq 874 181 dL_law_178 rfl rfl hf (fun hf => ?_) (fun hf => ?_)
        · refine rn_iinc (lv' := [(0, .ref (gB G)), (1, .ref (ad G o1)), (2, .ref (ad G o2)), (3, .int (x3 + 5))]) 877 dL_law_874 rfl (Nat.le_of_ble_eq_true rfl) rfl (inc_5 _) rfl ?_
          refine rn_goto 18 dL_law_877 rfl ?_
          exact ih _ _ hf
        · refine rn_iconst 182 dL_law_181 rfl ic_0 ?_
          exact rn_iret .boolean dL_law_182 rfl rfl (Or.inr ⟨rfl, by decide, by decide⟩) (ok_some hf :)
      refine ro_arm hf (fun z1 hf => ?_) (fun z1 hf => ?_)
      · refine rn_tabIn 183 dL_law_32 (by rw [z1]; decide) (by rw [z1]; decide) (by rw [z1]; rfl) rfl ?_
        refine rn_aload_n 184 dL_law_183 rfl rfl ?_
        refine ro_cVi (M' := M_X4_erase) (As := []) (o := o1) (st := []) 187 (158, 2178) dL_law_184 rfl l_L_18 v_X4_erase ⟨Nat.le_of_ble_eq_true rfl, Nat.le_of_ble_eq_true rfl⟩ rfl rfl (Nat.le_of_ble_eq_true rfl) (Nat.le_of_ble_eq_true rfl) ⟨rfl, Nat.le_of_ble_eq_true rfl, Nat.le_of_ble_eq_true rfl⟩ hf (fun X z => ok_ck z) rfl (fun X z => T_X4_erase z) (fun q6 hf => ?_)
        refine rn_aload_n 188 dL_law_187 rfl rfl ?_
        refine ro_cVi (M' := M_X5_erase) (As := []) (o := o2) (st := [.int q6.1]) 191 (158, 2178) dL_law_188 rfl l_L_22 v_X5_erase ⟨Nat.le_of_ble_eq_true rfl, Nat.le_of_ble_eq_true rfl⟩ rfl rfl (Nat.le_of_ble_eq_true rfl) (Nat.le_of_ble_eq_true rfl) ⟨rfl, Nat.le_of_ble_eq_true rfl, Nat.le_of_ble_eq_true rfl⟩ hf (fun X z => ok_ck z) rfl (fun X z => T_X5_erase z) (fun q7 hf => ?_)
        refine ro_icmp_eq 874 194 dL_law_191 rfl rfl hf (fun hf => ?_) (fun hf => ?_)
        · refine rn_iinc (lv' := [(0, .ref (gB G)), (1, .ref (ad G o1)), (2, .ref (ad G o2)), (3, .int (x3 + 5))]) 877 dL_law_874 rfl (Nat.le_of_ble_eq_true rfl) rfl (inc_5 _) rfl ?_
          refine rn_goto 18 dL_law_877 rfl ?_
          exact ih _ _ hf
        · refine rn_iconst 195 dL_law_194 rfl ic_0 ?_
          exact rn_iret .boolean dL_law_195 rfl rfl (Or.inr ⟨rfl, by decide, by decide⟩) (ok_some hf :)
      refine ro_arm hf (fun z2 hf => ?_) (fun z2 hf => ?_)
      · refine rn_tabIn 196 dL_law_32 (by rw [z2]; decide) (by rw [z2]; decide) (by rw [z2]; rfl) rfl ?_
        refine rn_aload_n 197 dL_law_196 rfl rfl ?_
        refine ro_cVi (M' := M_X4_fault) (As := []) (o := o1) (st := []) 200 (158, 2178) dL_law_197 rfl l_L_23 v_X4_fault ⟨Nat.le_of_ble_eq_true rfl, Nat.le_of_ble_eq_true rfl⟩ rfl rfl (Nat.le_of_ble_eq_true rfl) (Nat.le_of_ble_eq_true rfl) ⟨rfl, Nat.le_of_ble_eq_true rfl, Nat.le_of_ble_eq_true rfl⟩ hf (fun X z => ok_ck z) rfl (fun X z => T_X4_fault z) (fun q8 hf => ?_)
        refine rn_aload_n 201 dL_law_200 rfl rfl ?_
        refine ro_cVi (M' := M_X5_fault) (As := []) (o := o2) (st := [.int q8.1]) 204 (158, 2178) dL_law_201 rfl l_L_26 v_X5_fault ⟨Nat.le_of_ble_eq_true rfl, Nat.le_of_ble_eq_true rfl⟩ rfl rfl (Nat.le_of_ble_eq_true rfl) (Nat.le_of_ble_eq_true rfl) ⟨rfl, Nat.le_of_ble_eq_true rfl, Nat.le_of_ble_eq_true rfl⟩ hf (fun X z => ok_ck z) rfl (fun X z => T_X5_fault z) (fun q9 hf => ?_)
        refine ro_icmp_eq 874 207 dL_law_204 rfl rfl hf (fun hf => ?_) (fun hf => ?_)
        · refine rn_iinc (lv' := [(0, .ref (gB G)), (1, .ref (ad G o1)), (2, .ref (ad G o2)), (3, .int (x3 + 5))]) 877 dL_law_874 rfl (Nat.le_of_ble_eq_true rfl) rfl (inc_5 _) rfl ?_
          refine rn_goto 18 dL_law_877 rfl ?_
          exact ih _ _ hf
        · refine rn_iconst 208 dL_law_207 rfl ic_0 ?_
          exact rn_iret .boolean dL_law_208 rfl rfl (Or.inr ⟨rfl, by decide, by decide⟩) (ok_some hf :)
      refine ro_arm hf (fun z3 hf => ?_) (fun z3 hf => ?_)
      · refine rn_tabIn 209 dL_law_32 (by rw [z3]; decide) (by rw [z3]; decide) (by rw [z3]; rfl) rfl ?_
        refine rn_aload_n 210 dL_law_209 rfl rfl ?_
        refine ro_cVi (M' := M_X4_yard) (As := []) (o := o1) (st := []) 213 (158, 2178) dL_law_210 rfl l_L_27 v_X4_yard ⟨Nat.le_of_ble_eq_true rfl, Nat.le_of_ble_eq_true rfl⟩ rfl rfl (Nat.le_of_ble_eq_true rfl) (Nat.le_of_ble_eq_true rfl) ⟨rfl, Nat.le_of_ble_eq_true rfl, Nat.le_of_ble_eq_true rfl⟩ hf (fun X z => ok_ck z) rfl (fun X z => T_X4_yard z) (fun q10 hf => ?_)
        refine rn_aload_n 214 dL_law_213 rfl rfl ?_
        refine ro_cVi (M' := M_X5_yard) (As := []) (o := o2) (st := [.int q10.1]) 217 (158, 2178) dL_law_214 rfl l_L_30 v_X5_yard ⟨Nat.le_of_ble_eq_true rfl, Nat.le_of_ble_eq_true rfl⟩ rfl rfl (Nat.le_of_ble_eq_true rfl) (Nat.le_of_ble_eq_true rfl) ⟨rfl, Nat.le_of_ble_eq_true rfl, Nat.le_of_ble_eq_true rfl⟩ hf (fun X z => ok_ck z) rfl (fun X z => T_X5_yard z) (fun q11 hf => ?_)
        refine ro_icmp_eq 874 220 dL_law_217 rfl rfl hf (fun hf => ?_) (fun hf => ?_)
        · refine rn_iinc (lv' := [(0, .ref (gB G)), (1, .ref (ad G o1)), (2, .ref (ad G o2)), (3, .int (x3 + 5))]) 877 dL_law_874 rfl (Nat.le_of_ble_eq_true rfl) rfl (inc_5 _) rfl ?_
          refine rn_goto 18 dL_law_877 rfl ?_
          exact ih _ _ hf
        · refine rn_iconst 221 dL_law_220 rfl ic_0 ?_
          exact rn_iret .boolean dL_law_221 rfl rfl (Or.inr ⟨rfl, by decide, by decide⟩) (ok_some hf :)
      refine ro_arm hf (fun z4 hf => ?_) (fun z4 hf => ?_)
      · refine rn_tabIn 222 dL_law_32 (by rw [z4]; decide) (by rw [z4]; decide) (by rw [z4]; rfl) rfl ?_
        refine rn_aload_n 223 dL_law_222 rfl rfl ?_
        refine rn_aload_n 224 dL_law_223 rfl rfl ?_
        refine rn_iload_n 225 dL_law_224 rfl rfl ?_
        refine rn_iconst 226 dL_law_225 rfl ic_1 ?_
        refine rn_iadd 227 dL_law_226 rfl ?_
        refine ro_scr 228 dL_law_227 rfl hf (fun v12 hf => ?_)
        refine rn_aload_n 229 dL_law_228 rfl rfl ?_
        refine rn_iload_n 230 dL_law_229 rfl rfl ?_
        refine rn_iconst 231 dL_law_230 rfl ic_2 ?_
        refine rn_iadd 232 dL_law_231 rfl ?_
        refine ro_scr 233 dL_law_232 rfl hf (fun v13 hf => ?_)
        refine ro_cVp (M' := M_X4_place) (As := [.int v12, .int v13]) (o := o1) (st := []) 236 (158, 2178) dL_law_233 rfl l_L_31 v_X4_place ⟨Nat.le_of_ble_eq_true rfl, Nat.le_of_ble_eq_true rfl⟩ rfl rfl (Nat.le_of_ble_eq_true rfl) (Nat.le_of_ble_eq_true rfl) ⟨rfl, Nat.le_of_ble_eq_true rfl, Nat.le_of_ble_eq_true rfl⟩ hf (fun X z => ok_ck z) rfl (fun X z => T_X4_place z) (fun v14 hf => ?_)
        refine rn_aload_n 237 dL_law_236 rfl rfl ?_
        refine rn_aload_n 238 dL_law_237 rfl rfl ?_
        refine rn_iload_n 239 dL_law_238 rfl rfl ?_
        refine rn_iconst 240 dL_law_239 rfl ic_1 ?_
        refine rn_iadd 241 dL_law_240 rfl ?_
        refine ro_scr 242 dL_law_241 rfl hf (fun v15 hf => ?_)
        refine rn_aload_n 243 dL_law_242 rfl rfl ?_
        refine rn_iload_n 244 dL_law_243 rfl rfl ?_
        refine rn_iconst 245 dL_law_244 rfl ic_2 ?_
        refine rn_iadd 246 dL_law_245 rfl ?_
        refine ro_scr 247 dL_law_246 rfl hf (fun v16 hf => ?_)
        refine ro_cVp (M' := M_X5_place) (As := [.int v15, .int v16]) (o := o2) (st := [.int v14]) 250 (158, 2178) dL_law_247 rfl l_L_35 v_X5_place ⟨Nat.le_of_ble_eq_true rfl, Nat.le_of_ble_eq_true rfl⟩ rfl rfl (Nat.le_of_ble_eq_true rfl) (Nat.le_of_ble_eq_true rfl) ⟨rfl, Nat.le_of_ble_eq_true rfl, Nat.le_of_ble_eq_true rfl⟩ hf (fun X z => ok_ck z) rfl (fun X z => T_X5_place z) (fun v17 hf => ?_)
        refine ro_icmp_eq 874 253 dL_law_250 rfl rfl hf (fun hf => ?_) (fun hf => ?_)
        · refine rn_iinc (lv' := [(0, .ref (gB G)), (1, .ref (ad G o1)), (2, .ref (ad G o2)), (3, .int (x3 + 5))]) 877 dL_law_874 rfl (Nat.le_of_ble_eq_true rfl) rfl (inc_5 _) rfl ?_
          refine rn_goto 18 dL_law_877 rfl ?_
          exact ih _ _ hf
        · refine rn_iconst 254 dL_law_253 rfl ic_0 ?_
          exact rn_iret .boolean dL_law_254 rfl rfl (Or.inr ⟨rfl, by decide, by decide⟩) (ok_some hf :)
      refine ro_arm hf (fun z5 hf => ?_) (fun z5 hf => ?_)
      · refine rn_tabIn 255 dL_law_32 (by rw [z5]; decide) (by rw [z5]; decide) (by rw [z5]; rfl) rfl ?_
        refine rn_aload_n 256 dL_law_255 rfl rfl ?_
        refine rn_aload_n 257 dL_law_256 rfl rfl ?_
        refine rn_iload_n 258 dL_law_257 rfl rfl ?_
        refine rn_iconst 259 dL_law_258 rfl ic_1 ?_
        refine rn_iadd 260 dL_law_259 rfl ?_
        refine ro_scr 261 dL_law_260 rfl hf (fun v18 hf => ?_)
        refine rn_aload_n 262 dL_law_261 rfl rfl ?_
        refine rn_iload_n 263 dL_law_262 rfl rfl ?_
        refine rn_iconst 264 dL_law_263 rfl ic_2 ?_
        refine rn_iadd 265 dL_law_264 rfl ?_
        refine ro_scr 266 dL_law_265 rfl hf (fun v19 hf => ?_)
        refine ro_cVp (M' := M_X4_hen) (As := [.int v18, .int v19]) (o := o1) (st := []) 269 (158, 2178) dL_law_266 rfl l_L_36 v_X4_hen ⟨Nat.le_of_ble_eq_true rfl, Nat.le_of_ble_eq_true rfl⟩ rfl rfl (Nat.le_of_ble_eq_true rfl) (Nat.le_of_ble_eq_true rfl) ⟨rfl, Nat.le_of_ble_eq_true rfl, Nat.le_of_ble_eq_true rfl⟩ hf (fun X z => ok_ck z) rfl (fun X z => T_X4_hen z) (fun v20 hf => ?_)
        refine rn_aload_n 270 dL_law_269 rfl rfl ?_
        refine rn_aload_n 271 dL_law_270 rfl rfl ?_
        refine rn_iload_n 272 dL_law_271 rfl rfl ?_
        refine rn_iconst 273 dL_law_272 rfl ic_1 ?_
        refine rn_iadd 274 dL_law_273 rfl ?_
        refine ro_scr 275 dL_law_274 rfl hf (fun v21 hf => ?_)
        refine rn_aload_n 276 dL_law_275 rfl rfl ?_
        refine rn_iload_n 277 dL_law_276 rfl rfl ?_
        refine rn_iconst 278 dL_law_277 rfl ic_2 ?_
        refine rn_iadd 279 dL_law_278 rfl ?_
        refine ro_scr 280 dL_law_279 rfl hf (fun v22 hf => ?_)
        refine ro_cVp (M' := M_X5_hen) (As := [.int v21, .int v22]) (o := o2) (st := [.int v20]) 283 (158, 2178) dL_law_280 rfl l_L_39 v_X5_hen ⟨Nat.le_of_ble_eq_true rfl, Nat.le_of_ble_eq_true rfl⟩ rfl rfl (Nat.le_of_ble_eq_true rfl) (Nat.le_of_ble_eq_true rfl) ⟨rfl, Nat.le_of_ble_eq_true rfl, Nat.le_of_ble_eq_true rfl⟩ hf (fun X z => ok_ck z) rfl (fun X z => T_X5_hen z) (fun v23 hf => ?_)
        refine ro_icmp_eq 874 286 dL_law_283 rfl rfl hf (fun hf => ?_) (fun hf => ?_)
        · refine rn_iinc (lv' := [(0, .ref (gB G)), (1, .ref (ad G o1)), (2, .ref (ad G o2)), (3, .int (x3 + 5))]) 877 dL_law_874 rfl (Nat.le_of_ble_eq_true rfl) rfl (inc_5 _) rfl ?_
          refine rn_goto 18 dL_law_877 rfl ?_
          exact ih _ _ hf
        · refine rn_iconst 287 dL_law_286 rfl ic_0 ?_
          exact rn_iret .boolean dL_law_287 rfl rfl (Or.inr ⟨rfl, by decide, by decide⟩) (ok_some hf :)
      refine ro_arm hf (fun z6 hf => ?_) (fun z6 hf => ?_)
      · refine rn_tabIn 288 dL_law_32 (by rw [z6]; decide) (by rw [z6]; decide) (by rw [z6]; rfl) rfl ?_
        refine rn_aload_n 289 dL_law_288 rfl rfl ?_
        refine rn_aload_n 290 dL_law_289 rfl rfl ?_
        refine rn_iload_n 291 dL_law_290 rfl rfl ?_
        refine rn_iconst 292 dL_law_291 rfl ic_1 ?_
        refine rn_iadd 293 dL_law_292 rfl ?_
        refine ro_scr 294 dL_law_293 rfl hf (fun v24 hf => ?_)
        refine ro_cVp (M' := M_X4_news) (As := [.int v24]) (o := o1) (st := []) 297 (158, 2178) dL_law_294 rfl l_L_40 v_X4_news ⟨Nat.le_of_ble_eq_true rfl, Nat.le_of_ble_eq_true rfl⟩ rfl rfl (Nat.le_of_ble_eq_true rfl) (Nat.le_of_ble_eq_true rfl) ⟨rfl, Nat.le_of_ble_eq_true rfl, Nat.le_of_ble_eq_true rfl⟩ hf (fun X z => ok_ck z) rfl (fun X z => T_X4_news z) (fun v25 hf => ?_)
        refine rn_aload_n 298 dL_law_297 rfl rfl ?_
        refine rn_aload_n 299 dL_law_298 rfl rfl ?_
        refine rn_iload_n 300 dL_law_299 rfl rfl ?_
        refine rn_iconst 301 dL_law_300 rfl ic_1 ?_
        refine rn_iadd 302 dL_law_301 rfl ?_
        refine ro_scr 303 dL_law_302 rfl hf (fun v26 hf => ?_)
        refine ro_cVp (M' := M_X5_news) (As := [.int v26]) (o := o2) (st := [.int v25]) 306 (158, 2178) dL_law_303 rfl l_L_43 v_X5_news ⟨Nat.le_of_ble_eq_true rfl, Nat.le_of_ble_eq_true rfl⟩ rfl rfl (Nat.le_of_ble_eq_true rfl) (Nat.le_of_ble_eq_true rfl) ⟨rfl, Nat.le_of_ble_eq_true rfl, Nat.le_of_ble_eq_true rfl⟩ hf (fun X z => ok_ck z) rfl (fun X z => T_X5_news z) (fun v27 hf => ?_)
        refine ro_icmp_eq 874 309 dL_law_306 rfl rfl hf (fun hf => ?_) (fun hf => ?_)
        · refine rn_iinc (lv' := [(0, .ref (gB G)), (1, .ref (ad G o1)), (2, .ref (ad G o2)), (3, .int (x3 + 5))]) 877 dL_law_874 rfl (Nat.le_of_ble_eq_true rfl) rfl (inc_5 _) rfl ?_
          refine rn_goto 18 dL_law_877 rfl ?_
          exact ih _ _ hf
        · refine rn_iconst 310 dL_law_309 rfl ic_0 ?_
          exact rn_iret .boolean dL_law_310 rfl rfl (Or.inr ⟨rfl, by decide, by decide⟩) (ok_some hf :)
      refine ro_arm hf (fun z7 hf => ?_) (fun z7 hf => ?_)
      · refine rn_tabIn 311 dL_law_32 (by rw [z7]; decide) (by rw [z7]; decide) (by rw [z7]; rfl) rfl ?_
        refine rn_aload_n 312 dL_law_311 rfl rfl ?_
        refine rn_aload_n 313 dL_law_312 rfl rfl ?_
        refine rn_iload_n 314 dL_law_313 rfl rfl ?_
        refine rn_iconst 315 dL_law_314 rfl ic_1 ?_
        refine rn_iadd 316 dL_law_315 rfl ?_
        refine ro_scr 317 dL_law_316 rfl hf (fun v28 hf => ?_)
        refine rn_aload_n 318 dL_law_317 rfl rfl ?_
        refine rn_iload_n 319 dL_law_318 rfl rfl ?_
        refine rn_iconst 320 dL_law_319 rfl ic_2 ?_
        refine rn_iadd 321 dL_law_320 rfl ?_
        refine ro_scr 322 dL_law_321 rfl hf (fun v29 hf => ?_)
        refine ro_cVp (M' := M_X4_as) (As := [.int v28, .int v29]) (o := o1) (st := []) 325 (158, 2178) dL_law_322 rfl l_L_44 v_X4_as ⟨Nat.le_of_ble_eq_true rfl, Nat.le_of_ble_eq_true rfl⟩ rfl rfl (Nat.le_of_ble_eq_true rfl) (Nat.le_of_ble_eq_true rfl) ⟨rfl, Nat.le_of_ble_eq_true rfl, Nat.le_of_ble_eq_true rfl⟩ hf (fun X z => ok_ck z) rfl (fun X z => T_X4_as z) (fun v30 hf => ?_)
        refine rn_aload_n 326 dL_law_325 rfl rfl ?_
        refine rn_aload_n 327 dL_law_326 rfl rfl ?_
        refine rn_iload_n 328 dL_law_327 rfl rfl ?_
        refine rn_iconst 329 dL_law_328 rfl ic_1 ?_
        refine rn_iadd 330 dL_law_329 rfl ?_
        refine ro_scr 331 dL_law_330 rfl hf (fun v31 hf => ?_)
        refine rn_aload_n 332 dL_law_331 rfl rfl ?_
        refine rn_iload_n 333 dL_law_332 rfl rfl ?_
        refine rn_iconst 334 dL_law_333 rfl ic_2 ?_
        refine rn_iadd 335 dL_law_334 rfl ?_
        refine ro_scr 336 dL_law_335 rfl hf (fun v32 hf => ?_)
        refine ro_cVi (M' := M_X5_as) (As := [.int v31, .int v32]) (o := o2) (st := [.int v30]) 339 (158, 2178) dL_law_336 rfl l_L_47 v_X5_as ⟨Nat.le_of_ble_eq_true rfl, Nat.le_of_ble_eq_true rfl⟩ rfl rfl (Nat.le_of_ble_eq_true rfl) (Nat.le_of_ble_eq_true rfl) ⟨rfl, Nat.le_of_ble_eq_true rfl, Nat.le_of_ble_eq_true rfl⟩ hf (fun X z => ok_ck z) rfl (fun X z => T_X5_as z) (fun q33 hf => ?_)
        refine ro_icmp_eq 874 342 dL_law_339 rfl rfl hf (fun hf => ?_) (fun hf => ?_)
        · refine rn_iinc (lv' := [(0, .ref (gB G)), (1, .ref (ad G o1)), (2, .ref (ad G o2)), (3, .int (x3 + 5))]) 877 dL_law_874 rfl (Nat.le_of_ble_eq_true rfl) rfl (inc_5 _) rfl ?_
          refine rn_goto 18 dL_law_877 rfl ?_
          exact ih _ _ hf
        · refine rn_iconst 343 dL_law_342 rfl ic_0 ?_
          exact rn_iret .boolean dL_law_343 rfl rfl (Or.inr ⟨rfl, by decide, by decide⟩) (ok_some hf :)
      refine ro_arm hf (fun z8 hf => ?_) (fun z8 hf => ?_)
      · refine rn_tabIn 344 dL_law_32 (by rw [z8]; decide) (by rw [z8]; decide) (by rw [z8]; rfl) rfl ?_
        refine rn_aload_n 345 dL_law_344 rfl rfl ?_
        refine ro_cVi (M' := M_X4_day) (As := []) (o := o1) (st := []) 348 (158, 2178) dL_law_345 rfl l_L_48 v_X4_day ⟨Nat.le_of_ble_eq_true rfl, Nat.le_of_ble_eq_true rfl⟩ rfl rfl (Nat.le_of_ble_eq_true rfl) (Nat.le_of_ble_eq_true rfl) ⟨rfl, Nat.le_of_ble_eq_true rfl, Nat.le_of_ble_eq_true rfl⟩ hf (fun X z => ok_ck z) rfl (fun X z => T_X4_day z) (fun q34 hf => ?_)
        refine rn_aload_n 349 dL_law_348 rfl rfl ?_
        refine ro_cVi (M' := M_X5_day) (As := []) (o := o2) (st := [.int q34.1]) 352 (158, 2178) dL_law_349 rfl l_L_51 v_X5_day ⟨Nat.le_of_ble_eq_true rfl, Nat.le_of_ble_eq_true rfl⟩ rfl rfl (Nat.le_of_ble_eq_true rfl) (Nat.le_of_ble_eq_true rfl) ⟨rfl, Nat.le_of_ble_eq_true rfl, Nat.le_of_ble_eq_true rfl⟩ hf (fun X z => ok_ck z) rfl (fun X z => T_X5_day z) (fun q35 hf => ?_)
        refine ro_icmp_eq 874 355 dL_law_352 rfl rfl hf (fun hf => ?_) (fun hf => ?_)
        · refine rn_iinc (lv' := [(0, .ref (gB G)), (1, .ref (ad G o1)), (2, .ref (ad G o2)), (3, .int (x3 + 5))]) 877 dL_law_874 rfl (Nat.le_of_ble_eq_true rfl) rfl (inc_5 _) rfl ?_
          refine rn_goto 18 dL_law_877 rfl ?_
          exact ih _ _ hf
        · refine rn_iconst 356 dL_law_355 rfl ic_0 ?_
          exact rn_iret .boolean dL_law_356 rfl rfl (Or.inr ⟨rfl, by decide, by decide⟩) (ok_some hf :)
      refine ro_arm hf (fun z9 hf => ?_) (fun z9 hf => ?_)
      · refine rn_tabIn 357 dL_law_32 (by rw [z9]; decide) (by rw [z9]; decide) (by rw [z9]; rfl) rfl ?_
        refine rn_aload_n 358 dL_law_357 rfl rfl ?_
        refine ro_cVi (M' := M_X4_thunder) (As := []) (o := o1) (st := []) 361 (158, 2178) dL_law_358 rfl l_L_52 v_X4_thunder ⟨Nat.le_of_ble_eq_true rfl, Nat.le_of_ble_eq_true rfl⟩ rfl rfl (Nat.le_of_ble_eq_true rfl) (Nat.le_of_ble_eq_true rfl) ⟨rfl, Nat.le_of_ble_eq_true rfl, Nat.le_of_ble_eq_true rfl⟩ hf (fun X z => ok_ck z) rfl (fun X z => T_X4_thunder z) (fun q36 hf => ?_)
        refine rn_aload_n 362 dL_law_361 rfl rfl ?_
        refine ro_cVi (M' := M_X5_thunder) (As := []) (o := o2) (st := [.int q36.1]) 365 (158, 2178) dL_law_362 rfl l_L_55 v_X5_thunder ⟨Nat.le_of_ble_eq_true rfl, Nat.le_of_ble_eq_true rfl⟩ rfl rfl (Nat.le_of_ble_eq_true rfl) (Nat.le_of_ble_eq_true rfl) ⟨rfl, Nat.le_of_ble_eq_true rfl, Nat.le_of_ble_eq_true rfl⟩ hf (fun X z => ok_ck z) rfl (fun X z => T_X5_thunder z) (fun q37 hf => ?_)
        refine ro_icmp_eq 874 368 dL_law_365 rfl rfl hf (fun hf => ?_) (fun hf => ?_)
        · refine rn_iinc (lv' := [(0, .ref (gB G)), (1, .ref (ad G o1)), (2, .ref (ad G o2)), (3, .int (x3 + 5))]) 877 dL_law_874 rfl (Nat.le_of_ble_eq_true rfl) rfl (inc_5 _) rfl ?_
          refine rn_goto 18 dL_law_877 rfl ?_
          exact ih _ _ hf
        · refine rn_iconst 369 dL_law_368 rfl ic_0 ?_
          exact rn_iret .boolean dL_law_369 rfl rfl (Or.inr ⟨rfl, by decide, by decide⟩) (ok_some hf :)
      refine ro_arm hf (fun z10 hf => ?_) (fun z10 hf => ?_)
      · refine rn_tabIn 370 dL_law_32 (by rw [z10]; decide) (by rw [z10]; decide) (by rw [z10]; rfl) rfl ?_
        refine rn_aload_n 371 dL_law_370 rfl rfl ?_
        refine rn_aload_n 372 dL_law_371 rfl rfl ?_
        refine rn_iload_n 373 dL_law_372 rfl rfl ?_
        refine rn_iconst 374 dL_law_373 rfl ic_1 ?_
        refine rn_iadd 375 dL_law_374 rfl ?_
        refine ro_scr 376 dL_law_375 rfl hf (fun v38 hf => ?_)
        refine rn_aload_n 377 dL_law_376 rfl rfl ?_
        refine rn_iload_n 378 dL_law_377 rfl rfl ?_
        refine rn_iconst 379 dL_law_378 rfl ic_2 ?_
        refine rn_iadd 380 dL_law_379 rfl ?_
        refine ro_scr 381 dL_law_380 rfl hf (fun v39 hf => ?_)
        refine ro_cVi (M' := M_X4_straw) (As := [.int v38, .int v39]) (o := o1) (st := []) 384 (158, 2178) dL_law_381 rfl l_L_56 v_X4_straw ⟨Nat.le_of_ble_eq_true rfl, Nat.le_of_ble_eq_true rfl⟩ rfl rfl (Nat.le_of_ble_eq_true rfl) (Nat.le_of_ble_eq_true rfl) ⟨rfl, Nat.le_of_ble_eq_true rfl, Nat.le_of_ble_eq_true rfl⟩ hf (fun X z => ok_ck z) rfl (fun X z => T_X4_straw z) (fun q40 hf => ?_)
        refine rn_aload_n 385 dL_law_384 rfl rfl ?_
        refine rn_aload_n 386 dL_law_385 rfl rfl ?_
        refine rn_iload_n 387 dL_law_386 rfl rfl ?_
        refine rn_iconst 388 dL_law_387 rfl ic_1 ?_
        refine rn_iadd 389 dL_law_388 rfl ?_
        refine ro_scr 390 dL_law_389 rfl hf (fun v41 hf => ?_)
        refine rn_aload_n 391 dL_law_390 rfl rfl ?_
        refine rn_iload_n 392 dL_law_391 rfl rfl ?_
        refine rn_iconst 393 dL_law_392 rfl ic_2 ?_
        refine rn_iadd 394 dL_law_393 rfl ?_
        refine ro_scr 395 dL_law_394 rfl hf (fun v42 hf => ?_)
        refine ro_cVi (M' := M_X5_straw) (As := [.int v41, .int v42]) (o := o2) (st := [.int q40.1]) 398 (158, 2178) dL_law_395 rfl l_L_59 v_X5_straw ⟨Nat.le_of_ble_eq_true rfl, Nat.le_of_ble_eq_true rfl⟩ rfl rfl (Nat.le_of_ble_eq_true rfl) (Nat.le_of_ble_eq_true rfl) ⟨rfl, Nat.le_of_ble_eq_true rfl, Nat.le_of_ble_eq_true rfl⟩ hf (fun X z => ok_ck z) rfl (fun X z => T_X5_straw z) (fun q43 hf => ?_)
        refine ro_icmp_eq 874 401 dL_law_398 rfl rfl hf (fun hf => ?_) (fun hf => ?_)
        · refine rn_iinc (lv' := [(0, .ref (gB G)), (1, .ref (ad G o1)), (2, .ref (ad G o2)), (3, .int (x3 + 5))]) 877 dL_law_874 rfl (Nat.le_of_ble_eq_true rfl) rfl (inc_5 _) rfl ?_
          refine rn_goto 18 dL_law_877 rfl ?_
          exact ih _ _ hf
        · refine rn_iconst 402 dL_law_401 rfl ic_0 ?_
          exact rn_iret .boolean dL_law_402 rfl rfl (Or.inr ⟨rfl, by decide, by decide⟩) (ok_some hf :)
      refine ro_arm hf (fun z11 hf => ?_) (fun z11 hf => ?_)
      · refine rn_tabIn 403 dL_law_32 (by rw [z11]; decide) (by rw [z11]; decide) (by rw [z11]; rfl) rfl ?_
        refine rn_aload_n 404 dL_law_403 rfl rfl ?_
        refine rn_aload_n 405 dL_law_404 rfl rfl ?_
        refine rn_iload_n 406 dL_law_405 rfl rfl ?_
        refine rn_iconst 407 dL_law_406 rfl ic_1 ?_
        refine rn_iadd 408 dL_law_407 rfl ?_
        refine ro_scr 409 dL_law_408 rfl hf (fun v44 hf => ?_)
        refine rn_aload_n 410 dL_law_409 rfl rfl ?_
        refine rn_iload_n 411 dL_law_410 rfl rfl ?_
        refine rn_iconst 412 dL_law_411 rfl ic_2 ?_
        refine rn_iadd 413 dL_law_412 rfl ?_
        refine ro_scr 414 dL_law_413 rfl hf (fun v45 hf => ?_)
        refine ro_cVi (M' := M_X4_move) (As := [.int v44, .int v45]) (o := o1) (st := []) 417 (158, 2178) dL_law_414 rfl l_L_60 v_X4_move ⟨Nat.le_of_ble_eq_true rfl, Nat.le_of_ble_eq_true rfl⟩ rfl rfl (Nat.le_of_ble_eq_true rfl) (Nat.le_of_ble_eq_true rfl) ⟨rfl, Nat.le_of_ble_eq_true rfl, Nat.le_of_ble_eq_true rfl⟩ hf (fun X z => ok_ck z) rfl (fun X z => T_X4_move z) (fun q46 hf => ?_)
        refine rn_aload_n 418 dL_law_417 rfl rfl ?_
        refine rn_aload_n 419 dL_law_418 rfl rfl ?_
        refine rn_iload_n 420 dL_law_419 rfl rfl ?_
        refine rn_iconst 421 dL_law_420 rfl ic_1 ?_
        refine rn_iadd 422 dL_law_421 rfl ?_
        refine ro_scr 423 dL_law_422 rfl hf (fun v47 hf => ?_)
        refine rn_aload_n 424 dL_law_423 rfl rfl ?_
        refine rn_iload_n 425 dL_law_424 rfl rfl ?_
        refine rn_iconst 426 dL_law_425 rfl ic_2 ?_
        refine rn_iadd 427 dL_law_426 rfl ?_
        refine ro_scr 428 dL_law_427 rfl hf (fun v48 hf => ?_)
        refine ro_cVi (M' := M_X5_move) (As := [.int v47, .int v48]) (o := o2) (st := [.int q46.1]) 431 (158, 2178) dL_law_428 rfl l_L_63 v_X5_move ⟨Nat.le_of_ble_eq_true rfl, Nat.le_of_ble_eq_true rfl⟩ rfl rfl (Nat.le_of_ble_eq_true rfl) (Nat.le_of_ble_eq_true rfl) ⟨rfl, Nat.le_of_ble_eq_true rfl, Nat.le_of_ble_eq_true rfl⟩ hf (fun X z => ok_ck z) rfl (fun X z => T_X5_move z) (fun q49 hf => ?_)
        refine ro_icmp_eq 874 434 dL_law_431 rfl rfl hf (fun hf => ?_) (fun hf => ?_)
        · refine rn_iinc (lv' := [(0, .ref (gB G)), (1, .ref (ad G o1)), (2, .ref (ad G o2)), (3, .int (x3 + 5))]) 877 dL_law_874 rfl (Nat.le_of_ble_eq_true rfl) rfl (inc_5 _) rfl ?_
          refine rn_goto 18 dL_law_877 rfl ?_
          exact ih _ _ hf
        · refine rn_iconst 435 dL_law_434 rfl ic_0 ?_
          exact rn_iret .boolean dL_law_435 rfl rfl (Or.inr ⟨rfl, by decide, by decide⟩) (ok_some hf :)
      refine ro_arm hf (fun z12 hf => ?_) (fun z12 hf => ?_)
      · refine rn_tabIn 436 dL_law_32 (by rw [z12]; decide) (by rw [z12]; decide) (by rw [z12]; rfl) rfl ?_
        refine rn_aload_n 437 dL_law_436 rfl rfl ?_
        refine rn_aload_n 438 dL_law_437 rfl rfl ?_
        refine rn_iload_n 439 dL_law_438 rfl rfl ?_
        refine rn_iconst 440 dL_law_439 rfl ic_1 ?_
        refine rn_iadd 441 dL_law_440 rfl ?_
        refine ro_scr 442 dL_law_441 rfl hf (fun v50 hf => ?_)
        refine ro_cVi (M' := M_X4_eat) (As := [.int v50]) (o := o1) (st := []) 445 (158, 2178) dL_law_442 rfl l_L_64 v_X4_eat ⟨Nat.le_of_ble_eq_true rfl, Nat.le_of_ble_eq_true rfl⟩ rfl rfl (Nat.le_of_ble_eq_true rfl) (Nat.le_of_ble_eq_true rfl) ⟨rfl, Nat.le_of_ble_eq_true rfl, Nat.le_of_ble_eq_true rfl⟩ hf (fun X z => ok_ck z) rfl (fun X z => T_X4_eat z) (fun q51 hf => ?_)
        refine rn_aload_n 446 dL_law_445 rfl rfl ?_
        refine rn_aload_n 447 dL_law_446 rfl rfl ?_
        refine rn_iload_n 448 dL_law_447 rfl rfl ?_
        refine rn_iconst 449 dL_law_448 rfl ic_1 ?_
        refine rn_iadd 450 dL_law_449 rfl ?_
        refine ro_scr 451 dL_law_450 rfl hf (fun v52 hf => ?_)
        refine ro_cVi (M' := M_X5_eat) (As := [.int v52]) (o := o2) (st := [.int q51.1]) 454 (158, 2178) dL_law_451 rfl l_L_67 v_X5_eat ⟨Nat.le_of_ble_eq_true rfl, Nat.le_of_ble_eq_true rfl⟩ rfl rfl (Nat.le_of_ble_eq_true rfl) (Nat.le_of_ble_eq_true rfl) ⟨rfl, Nat.le_of_ble_eq_true rfl, Nat.le_of_ble_eq_true rfl⟩ hf (fun X z => ok_ck z) rfl (fun X z => T_X5_eat z) (fun q53 hf => ?_)
        refine ro_icmp_eq 874 457 dL_law_454 rfl rfl hf (fun hf => ?_) (fun hf => ?_)
        · refine rn_iinc (lv' := [(0, .ref (gB G)), (1, .ref (ad G o1)), (2, .ref (ad G o2)), (3, .int (x3 + 5))]) 877 dL_law_874 rfl (Nat.le_of_ble_eq_true rfl) rfl (inc_5 _) rfl ?_
          refine rn_goto 18 dL_law_877 rfl ?_
          exact ih _ _ hf
        · refine rn_iconst 458 dL_law_457 rfl ic_0 ?_
          exact rn_iret .boolean dL_law_458 rfl rfl (Or.inr ⟨rfl, by decide, by decide⟩) (ok_some hf :)
      refine ro_arm hf (fun z13 hf => ?_) (fun z13 hf => ?_)
      · refine rn_tabIn 459 dL_law_32 (by rw [z13]; decide) (by rw [z13]; decide) (by rw [z13]; rfl) rfl ?_
        refine rn_aload_n 460 dL_law_459 rfl rfl ?_
        refine rn_aload_n 461 dL_law_460 rfl rfl ?_
        refine rn_iload_n 462 dL_law_461 rfl rfl ?_
        refine rn_iconst 463 dL_law_462 rfl ic_1 ?_
        refine rn_iadd 464 dL_law_463 rfl ?_
        refine ro_scr 465 dL_law_464 rfl hf (fun v54 hf => ?_)
        refine ro_cVi (M' := M_X4_heed) (As := [.int v54]) (o := o1) (st := []) 468 (158, 2178) dL_law_465 rfl l_L_68 v_X4_heed ⟨Nat.le_of_ble_eq_true rfl, Nat.le_of_ble_eq_true rfl⟩ rfl rfl (Nat.le_of_ble_eq_true rfl) (Nat.le_of_ble_eq_true rfl) ⟨rfl, Nat.le_of_ble_eq_true rfl, Nat.le_of_ble_eq_true rfl⟩ hf (fun X z => ok_ck z) rfl (fun X z => T_X4_heed z) (fun q55 hf => ?_)
        refine rn_aload_n 469 dL_law_468 rfl rfl ?_
        refine rn_aload_n 470 dL_law_469 rfl rfl ?_
        refine rn_iload_n 471 dL_law_470 rfl rfl ?_
        refine rn_iconst 472 dL_law_471 rfl ic_1 ?_
        refine rn_iadd 473 dL_law_472 rfl ?_
        refine ro_scr 474 dL_law_473 rfl hf (fun v56 hf => ?_)
        refine ro_cVi (M' := M_X5_heed) (As := [.int v56]) (o := o2) (st := [.int q55.1]) 477 (158, 2178) dL_law_474 rfl l_L_71 v_X5_heed ⟨Nat.le_of_ble_eq_true rfl, Nat.le_of_ble_eq_true rfl⟩ rfl rfl (Nat.le_of_ble_eq_true rfl) (Nat.le_of_ble_eq_true rfl) ⟨rfl, Nat.le_of_ble_eq_true rfl, Nat.le_of_ble_eq_true rfl⟩ hf (fun X z => ok_ck z) rfl (fun X z => T_X5_heed z) (fun q57 hf => ?_)
        refine ro_icmp_eq 874 480 dL_law_477 rfl rfl hf (fun hf => ?_) (fun hf => ?_)
        · refine rn_iinc (lv' := [(0, .ref (gB G)), (1, .ref (ad G o1)), (2, .ref (ad G o2)), (3, .int (x3 + 5))]) 877 dL_law_874 rfl (Nat.le_of_ble_eq_true rfl) rfl (inc_5 _) rfl ?_
          refine rn_goto 18 dL_law_877 rfl ?_
          exact ih _ _ hf
        · refine rn_iconst 481 dL_law_480 rfl ic_0 ?_
          exact rn_iret .boolean dL_law_481 rfl rfl (Or.inr ⟨rfl, by decide, by decide⟩) (ok_some hf :)
      refine ro_arm hf (fun z14 hf => ?_) (fun z14 hf => ?_)
      · refine rn_tabIn 482 dL_law_32 (by rw [z14]; decide) (by rw [z14]; decide) (by rw [z14]; rfl) rfl ?_
        refine rn_aload_n 483 dL_law_482 rfl rfl ?_
        refine ro_cVi (M' := M_X4_undo) (As := []) (o := o1) (st := []) 486 (158, 2178) dL_law_483 rfl l_L_72 v_X4_undo ⟨Nat.le_of_ble_eq_true rfl, Nat.le_of_ble_eq_true rfl⟩ rfl rfl (Nat.le_of_ble_eq_true rfl) (Nat.le_of_ble_eq_true rfl) ⟨rfl, Nat.le_of_ble_eq_true rfl, Nat.le_of_ble_eq_true rfl⟩ hf (fun X z => ok_ck z) rfl (fun X z => T_X4_undo z) (fun q58 hf => ?_)
        refine rn_aload_n 487 dL_law_486 rfl rfl ?_
        refine ro_cVi (M' := M_X5_undo) (As := []) (o := o2) (st := [.int q58.1]) 490 (158, 2178) dL_law_487 rfl l_L_75 v_X5_undo ⟨Nat.le_of_ble_eq_true rfl, Nat.le_of_ble_eq_true rfl⟩ rfl rfl (Nat.le_of_ble_eq_true rfl) (Nat.le_of_ble_eq_true rfl) ⟨rfl, Nat.le_of_ble_eq_true rfl, Nat.le_of_ble_eq_true rfl⟩ hf (fun X z => ok_ck z) rfl (fun X z => T_X5_undo z) (fun q59 hf => ?_)
        refine ro_icmp_eq 874 493 dL_law_490 rfl rfl hf (fun hf => ?_) (fun hf => ?_)
        · refine rn_iinc (lv' := [(0, .ref (gB G)), (1, .ref (ad G o1)), (2, .ref (ad G o2)), (3, .int (x3 + 5))]) 877 dL_law_874 rfl (Nat.le_of_ble_eq_true rfl) rfl (inc_5 _) rfl ?_
          refine rn_goto 18 dL_law_877 rfl ?_
          exact ih _ _ hf
        · refine rn_iconst 494 dL_law_493 rfl ic_0 ?_
          exact rn_iret .boolean dL_law_494 rfl rfl (Or.inr ⟨rfl, by decide, by decide⟩) (ok_some hf :)
      refine ro_arm hf (fun z15 hf => ?_) (fun z15 hf => ?_)
      · refine rn_tabIn 495 dL_law_32 (by rw [z15]; decide) (by rw [z15]; decide) (by rw [z15]; rfl) rfl ?_
        refine rn_aload_n 496 dL_law_495 rfl rfl ?_
        refine rn_aload_n 497 dL_law_496 rfl rfl ?_
        refine rn_iload_n 498 dL_law_497 rfl rfl ?_
        refine rn_iconst 499 dL_law_498 rfl ic_1 ?_
        refine rn_iadd 500 dL_law_499 rfl ?_
        refine ro_scr 501 dL_law_500 rfl hf (fun v60 hf => ?_)
        refine ro_cVi (M' := M_X4_keep) (As := [.int v60]) (o := o1) (st := []) 504 (158, 2178) dL_law_501 rfl l_L_76 v_X4_keep ⟨Nat.le_of_ble_eq_true rfl, Nat.le_of_ble_eq_true rfl⟩ rfl rfl (Nat.le_of_ble_eq_true rfl) (Nat.le_of_ble_eq_true rfl) ⟨rfl, Nat.le_of_ble_eq_true rfl, Nat.le_of_ble_eq_true rfl⟩ hf (fun X z => ok_ck z) rfl (fun X z => T_X4_keep z) (fun q61 hf => ?_)
        refine rn_aload_n 505 dL_law_504 rfl rfl ?_
        refine rn_aload_n 506 dL_law_505 rfl rfl ?_
        refine rn_iload_n 507 dL_law_506 rfl rfl ?_
        refine rn_iconst 508 dL_law_507 rfl ic_1 ?_
        refine rn_iadd 509 dL_law_508 rfl ?_
        refine ro_scr 510 dL_law_509 rfl hf (fun v62 hf => ?_)
        refine ro_cVi (M' := M_X5_keep) (As := [.int v62]) (o := o2) (st := [.int q61.1]) 513 (158, 2178) dL_law_510 rfl l_L_79 v_X5_keep ⟨Nat.le_of_ble_eq_true rfl, Nat.le_of_ble_eq_true rfl⟩ rfl rfl (Nat.le_of_ble_eq_true rfl) (Nat.le_of_ble_eq_true rfl) ⟨rfl, Nat.le_of_ble_eq_true rfl, Nat.le_of_ble_eq_true rfl⟩ hf (fun X z => ok_ck z) rfl (fun X z => T_X5_keep z) (fun q63 hf => ?_)
        refine ro_icmp_eq 874 516 dL_law_513 rfl rfl hf (fun hf => ?_) (fun hf => ?_)
        · refine rn_iinc (lv' := [(0, .ref (gB G)), (1, .ref (ad G o1)), (2, .ref (ad G o2)), (3, .int (x3 + 5))]) 877 dL_law_874 rfl (Nat.le_of_ble_eq_true rfl) rfl (inc_5 _) rfl ?_
          refine rn_goto 18 dL_law_877 rfl ?_
          exact ih _ _ hf
        · refine rn_iconst 517 dL_law_516 rfl ic_0 ?_
          exact rn_iret .boolean dL_law_517 rfl rfl (Or.inr ⟨rfl, by decide, by decide⟩) (ok_some hf :)
      refine ro_arm hf (fun z16 hf => ?_) (fun z16 hf => ?_)
      · refine rn_tabIn 518 dL_law_32 (by rw [z16]; decide) (by rw [z16]; decide) (by rw [z16]; rfl) rfl ?_
        refine rn_aload_n 519 dL_law_518 rfl rfl ?_
        refine rn_aload_n 520 dL_law_519 rfl rfl ?_
        refine rn_iload_n 521 dL_law_520 rfl rfl ?_
        refine rn_iconst 522 dL_law_521 rfl ic_1 ?_
        refine rn_iadd 523 dL_law_522 rfl ?_
        refine ro_scr 524 dL_law_523 rfl hf (fun v64 hf => ?_)
        refine ro_cVi (M' := M_X4_back) (As := [.int v64]) (o := o1) (st := []) 527 (158, 2178) dL_law_524 rfl l_L_80 v_X4_back ⟨Nat.le_of_ble_eq_true rfl, Nat.le_of_ble_eq_true rfl⟩ rfl rfl (Nat.le_of_ble_eq_true rfl) (Nat.le_of_ble_eq_true rfl) ⟨rfl, Nat.le_of_ble_eq_true rfl, Nat.le_of_ble_eq_true rfl⟩ hf (fun X z => ok_ck z) rfl (fun X z => T_X4_back z) (fun q65 hf => ?_)
        refine rn_aload_n 528 dL_law_527 rfl rfl ?_
        refine rn_aload_n 529 dL_law_528 rfl rfl ?_
        refine rn_iload_n 530 dL_law_529 rfl rfl ?_
        refine rn_iconst 531 dL_law_530 rfl ic_1 ?_
        refine rn_iadd 532 dL_law_531 rfl ?_
        refine ro_scr 533 dL_law_532 rfl hf (fun v66 hf => ?_)
        refine ro_cVi (M' := M_X5_back) (As := [.int v66]) (o := o2) (st := [.int q65.1]) 536 (158, 2178) dL_law_533 rfl l_L_83 v_X5_back ⟨Nat.le_of_ble_eq_true rfl, Nat.le_of_ble_eq_true rfl⟩ rfl rfl (Nat.le_of_ble_eq_true rfl) (Nat.le_of_ble_eq_true rfl) ⟨rfl, Nat.le_of_ble_eq_true rfl, Nat.le_of_ble_eq_true rfl⟩ hf (fun X z => ok_ck z) rfl (fun X z => T_X5_back z) (fun q67 hf => ?_)
        refine ro_icmp_eq 874 539 dL_law_536 rfl rfl hf (fun hf => ?_) (fun hf => ?_)
        · refine rn_iinc (lv' := [(0, .ref (gB G)), (1, .ref (ad G o1)), (2, .ref (ad G o2)), (3, .int (x3 + 5))]) 877 dL_law_874 rfl (Nat.le_of_ble_eq_true rfl) rfl (inc_5 _) rfl ?_
          refine rn_goto 18 dL_law_877 rfl ?_
          exact ih _ _ hf
        · refine rn_iconst 540 dL_law_539 rfl ic_0 ?_
          exact rn_iret .boolean dL_law_540 rfl rfl (Or.inr ⟨rfl, by decide, by decide⟩) (ok_some hf :)
      refine ro_arm hf (fun z17 hf => ?_) (fun z17 hf => ?_)
      · refine rn_tabIn 541 dL_law_32 (by rw [z17]; decide) (by rw [z17]; decide) (by rw [z17]; rfl) rfl ?_
        refine rn_aload_n 542 dL_law_541 rfl rfl ?_
        refine rn_aload_n 543 dL_law_542 rfl rfl ?_
        refine rn_iload_n 544 dL_law_543 rfl rfl ?_
        refine rn_iconst 545 dL_law_544 rfl ic_1 ?_
        refine rn_iadd 546 dL_law_545 rfl ?_
        refine ro_scr 547 dL_law_546 rfl hf (fun v68 hf => ?_)
        refine rn_aload_n 548 dL_law_547 rfl rfl ?_
        refine rn_iload_n 549 dL_law_548 rfl rfl ?_
        refine rn_iconst 550 dL_law_549 rfl ic_2 ?_
        refine rn_iadd 551 dL_law_550 rfl ?_
        refine ro_scr 552 dL_law_551 rfl hf (fun v69 hf => ?_)
        refine ro_cVi (M' := M_X4_lays) (As := [.int v68, .int v69]) (o := o1) (st := []) 555 (158, 2178) dL_law_552 rfl l_L_84 v_X4_lays ⟨Nat.le_of_ble_eq_true rfl, Nat.le_of_ble_eq_true rfl⟩ rfl rfl (Nat.le_of_ble_eq_true rfl) (Nat.le_of_ble_eq_true rfl) ⟨rfl, Nat.le_of_ble_eq_true rfl, Nat.le_of_ble_eq_true rfl⟩ hf (fun X z => ok_ck z) rfl (fun X z => T_X4_lays z) (fun q70 hf => ?_)
        refine rn_aload_n 556 dL_law_555 rfl rfl ?_
        refine rn_aload_n 557 dL_law_556 rfl rfl ?_
        refine rn_iload_n 558 dL_law_557 rfl rfl ?_
        refine rn_iconst 559 dL_law_558 rfl ic_1 ?_
        refine rn_iadd 560 dL_law_559 rfl ?_
        refine ro_scr 561 dL_law_560 rfl hf (fun v71 hf => ?_)
        refine rn_aload_n 562 dL_law_561 rfl rfl ?_
        refine rn_iload_n 563 dL_law_562 rfl rfl ?_
        refine rn_iconst 564 dL_law_563 rfl ic_2 ?_
        refine rn_iadd 565 dL_law_564 rfl ?_
        refine ro_scr 566 dL_law_565 rfl hf (fun v72 hf => ?_)
        refine ro_cVi (M' := M_X5_lays) (As := [.int v71, .int v72]) (o := o2) (st := [.int q70.1]) 569 (158, 2178) dL_law_566 rfl l_L_87 v_X5_lays ⟨Nat.le_of_ble_eq_true rfl, Nat.le_of_ble_eq_true rfl⟩ rfl rfl (Nat.le_of_ble_eq_true rfl) (Nat.le_of_ble_eq_true rfl) ⟨rfl, Nat.le_of_ble_eq_true rfl, Nat.le_of_ble_eq_true rfl⟩ hf (fun X z => ok_ck z) rfl (fun X z => T_X5_lays z) (fun q73 hf => ?_)
        refine ro_icmp_eq 874 572 dL_law_569 rfl rfl hf (fun hf => ?_) (fun hf => ?_)
        · refine rn_iinc (lv' := [(0, .ref (gB G)), (1, .ref (ad G o1)), (2, .ref (ad G o2)), (3, .int (x3 + 5))]) 877 dL_law_874 rfl (Nat.le_of_ble_eq_true rfl) rfl (inc_5 _) rfl ?_
          refine rn_goto 18 dL_law_877 rfl ?_
          exact ih _ _ hf
        · refine rn_iconst 573 dL_law_572 rfl ic_0 ?_
          exact rn_iret .boolean dL_law_573 rfl rfl (Or.inr ⟨rfl, by decide, by decide⟩) (ok_some hf :)
      refine ro_arm hf (fun z18 hf => ?_) (fun z18 hf => ?_)
      · refine rn_tabIn 574 dL_law_32 (by rw [z18]; decide) (by rw [z18]; decide) (by rw [z18]; rfl) rfl ?_
        refine rn_aload_n 575 dL_law_574 rfl rfl ?_
        refine rn_aload_n 576 dL_law_575 rfl rfl ?_
        refine rn_iload_n 577 dL_law_576 rfl rfl ?_
        refine rn_iconst 578 dL_law_577 rfl ic_1 ?_
        refine rn_iadd 579 dL_law_578 rfl ?_
        refine ro_scr 580 dL_law_579 rfl hf (fun v74 hf => ?_)
        refine rn_aload_n 581 dL_law_580 rfl rfl ?_
        refine rn_iload_n 582 dL_law_581 rfl rfl ?_
        refine rn_iconst 583 dL_law_582 rfl ic_2 ?_
        refine rn_iadd 584 dL_law_583 rfl ?_
        refine ro_scr 585 dL_law_584 rfl hf (fun v75 hf => ?_)
        refine ro_cVi (M' := M_X4_rights) (As := [.int v74, .int v75]) (o := o1) (st := []) 588 (158, 2178) dL_law_585 rfl l_L_88 v_X4_rights ⟨Nat.le_of_ble_eq_true rfl, Nat.le_of_ble_eq_true rfl⟩ rfl rfl (Nat.le_of_ble_eq_true rfl) (Nat.le_of_ble_eq_true rfl) ⟨rfl, Nat.le_of_ble_eq_true rfl, Nat.le_of_ble_eq_true rfl⟩ hf (fun X z => ok_ck z) rfl (fun X z => T_X4_rights z) (fun q76 hf => ?_)
        refine rn_aload_n 589 dL_law_588 rfl rfl ?_
        refine rn_aload_n 590 dL_law_589 rfl rfl ?_
        refine rn_iload_n 591 dL_law_590 rfl rfl ?_
        refine rn_iconst 592 dL_law_591 rfl ic_1 ?_
        refine rn_iadd 593 dL_law_592 rfl ?_
        refine ro_scr 594 dL_law_593 rfl hf (fun v77 hf => ?_)
        refine rn_aload_n 595 dL_law_594 rfl rfl ?_
        refine rn_iload_n 596 dL_law_595 rfl rfl ?_
        refine rn_iconst 597 dL_law_596 rfl ic_2 ?_
        refine rn_iadd 598 dL_law_597 rfl ?_
        refine ro_scr 599 dL_law_598 rfl hf (fun v78 hf => ?_)
        refine ro_cVi (M' := M_X5_rights) (As := [.int v77, .int v78]) (o := o2) (st := [.int q76.1]) 602 (158, 2178) dL_law_599 rfl l_L_91 v_X5_rights ⟨Nat.le_of_ble_eq_true rfl, Nat.le_of_ble_eq_true rfl⟩ rfl rfl (Nat.le_of_ble_eq_true rfl) (Nat.le_of_ble_eq_true rfl) ⟨rfl, Nat.le_of_ble_eq_true rfl, Nat.le_of_ble_eq_true rfl⟩ hf (fun X z => ok_ck z) rfl (fun X z => T_X5_rights z) (fun q79 hf => ?_)
        refine ro_icmp_eq 874 605 dL_law_602 rfl rfl hf (fun hf => ?_) (fun hf => ?_)
        · refine rn_iinc (lv' := [(0, .ref (gB G)), (1, .ref (ad G o1)), (2, .ref (ad G o2)), (3, .int (x3 + 5))]) 877 dL_law_874 rfl (Nat.le_of_ble_eq_true rfl) rfl (inc_5 _) rfl ?_
          refine rn_goto 18 dL_law_877 rfl ?_
          exact ih _ _ hf
        · refine rn_iconst 606 dL_law_605 rfl ic_0 ?_
          exact rn_iret .boolean dL_law_606 rfl rfl (Or.inr ⟨rfl, by decide, by decide⟩) (ok_some hf :)
      refine ro_arm hf (fun z19 hf => ?_) (fun z19 hf => ?_)
      · refine rn_tabIn 607 dL_law_32 (by rw [z19]; decide) (by rw [z19]; decide) (by rw [z19]; rfl) rfl ?_
        refine rn_aload_n 608 dL_law_607 rfl rfl ?_
        refine rn_aload_n 609 dL_law_608 rfl rfl ?_
        refine rn_iload_n 610 dL_law_609 rfl rfl ?_
        refine rn_iconst 611 dL_law_610 rfl ic_1 ?_
        refine rn_iadd 612 dL_law_611 rfl ?_
        refine ro_scr 613 dL_law_612 rfl hf (fun v80 hf => ?_)
        refine rn_aload_n 614 dL_law_613 rfl rfl ?_
        refine rn_iload_n 615 dL_law_614 rfl rfl ?_
        refine rn_iconst 616 dL_law_615 rfl ic_2 ?_
        refine rn_iadd 617 dL_law_616 rfl ?_
        refine ro_scr 618 dL_law_617 rfl hf (fun v81 hf => ?_)
        refine ro_cVi (M' := M_X4_ask) (As := [.int v80, .int v81]) (o := o1) (st := []) 621 (158, 2178) dL_law_618 rfl l_L_92 v_X4_ask ⟨Nat.le_of_ble_eq_true rfl, Nat.le_of_ble_eq_true rfl⟩ rfl rfl (Nat.le_of_ble_eq_true rfl) (Nat.le_of_ble_eq_true rfl) ⟨rfl, Nat.le_of_ble_eq_true rfl, Nat.le_of_ble_eq_true rfl⟩ hf (fun X z => ok_ck z) rfl (fun X z => T_X4_ask z) (fun q82 hf => ?_)
        refine rn_aload_n 622 dL_law_621 rfl rfl ?_
        refine rn_aload_n 623 dL_law_622 rfl rfl ?_
        refine rn_iload_n 624 dL_law_623 rfl rfl ?_
        refine rn_iconst 625 dL_law_624 rfl ic_1 ?_
        refine rn_iadd 626 dL_law_625 rfl ?_
        refine ro_scr 627 dL_law_626 rfl hf (fun v83 hf => ?_)
        refine rn_aload_n 628 dL_law_627 rfl rfl ?_
        refine rn_iload_n 629 dL_law_628 rfl rfl ?_
        refine rn_iconst 630 dL_law_629 rfl ic_2 ?_
        refine rn_iadd 631 dL_law_630 rfl ?_
        refine ro_scr 632 dL_law_631 rfl hf (fun v84 hf => ?_)
        refine ro_cVi (M' := M_X5_ask) (As := [.int v83, .int v84]) (o := o2) (st := [.int q82.1]) 635 (158, 2178) dL_law_632 rfl l_L_95 v_X5_ask ⟨Nat.le_of_ble_eq_true rfl, Nat.le_of_ble_eq_true rfl⟩ rfl rfl (Nat.le_of_ble_eq_true rfl) (Nat.le_of_ble_eq_true rfl) ⟨rfl, Nat.le_of_ble_eq_true rfl, Nat.le_of_ble_eq_true rfl⟩ hf (fun X z => ok_ck z) rfl (fun X z => T_X5_ask z) (fun q85 hf => ?_)
        refine ro_icmp_eq 874 638 dL_law_635 rfl rfl hf (fun hf => ?_) (fun hf => ?_)
        · refine rn_iinc (lv' := [(0, .ref (gB G)), (1, .ref (ad G o1)), (2, .ref (ad G o2)), (3, .int (x3 + 5))]) 877 dL_law_874 rfl (Nat.le_of_ble_eq_true rfl) rfl (inc_5 _) rfl ?_
          refine rn_goto 18 dL_law_877 rfl ?_
          exact ih _ _ hf
        · refine rn_iconst 639 dL_law_638 rfl ic_0 ?_
          exact rn_iret .boolean dL_law_639 rfl rfl (Or.inr ⟨rfl, by decide, by decide⟩) (ok_some hf :)
      refine ro_arm hf (fun z20 hf => ?_) (fun z20 hf => ?_)
      · refine rn_tabIn 640 dL_law_32 (by rw [z20]; decide) (by rw [z20]; decide) (by rw [z20]; rfl) rfl ?_
        refine rn_aload_n 641 dL_law_640 rfl rfl ?_
        refine rn_aload_n 642 dL_law_641 rfl rfl ?_
        refine rn_iload_n 643 dL_law_642 rfl rfl ?_
        refine rn_iconst 644 dL_law_643 rfl ic_1 ?_
        refine rn_iadd 645 dL_law_644 rfl ?_
        refine ro_scr 646 dL_law_645 rfl hf (fun v86 hf => ?_)
        refine ro_cVi (M' := M_X4_trough) (As := [.int v86]) (o := o1) (st := []) 649 (158, 2178) dL_law_646 rfl l_L_96 v_X4_trough ⟨Nat.le_of_ble_eq_true rfl, Nat.le_of_ble_eq_true rfl⟩ rfl rfl (Nat.le_of_ble_eq_true rfl) (Nat.le_of_ble_eq_true rfl) ⟨rfl, Nat.le_of_ble_eq_true rfl, Nat.le_of_ble_eq_true rfl⟩ hf (fun X z => ok_ck z) rfl (fun X z => T_X4_trough z) (fun q87 hf => ?_)
        refine rn_aload_n 650 dL_law_649 rfl rfl ?_
        refine rn_aload_n 651 dL_law_650 rfl rfl ?_
        refine rn_iload_n 652 dL_law_651 rfl rfl ?_
        refine rn_iconst 653 dL_law_652 rfl ic_1 ?_
        refine rn_iadd 654 dL_law_653 rfl ?_
        refine ro_scr 655 dL_law_654 rfl hf (fun v88 hf => ?_)
        refine ro_cVi (M' := M_X5_trough) (As := [.int v88]) (o := o2) (st := [.int q87.1]) 658 (158, 2178) dL_law_655 rfl l_L_99 v_X5_trough ⟨Nat.le_of_ble_eq_true rfl, Nat.le_of_ble_eq_true rfl⟩ rfl rfl (Nat.le_of_ble_eq_true rfl) (Nat.le_of_ble_eq_true rfl) ⟨rfl, Nat.le_of_ble_eq_true rfl, Nat.le_of_ble_eq_true rfl⟩ hf (fun X z => ok_ck z) rfl (fun X z => T_X5_trough z) (fun q89 hf => ?_)
        refine ro_icmp_eq 874 661 dL_law_658 rfl rfl hf (fun hf => ?_) (fun hf => ?_)
        · refine rn_iinc (lv' := [(0, .ref (gB G)), (1, .ref (ad G o1)), (2, .ref (ad G o2)), (3, .int (x3 + 5))]) 877 dL_law_874 rfl (Nat.le_of_ble_eq_true rfl) rfl (inc_5 _) rfl ?_
          refine rn_goto 18 dL_law_877 rfl ?_
          exact ih _ _ hf
        · refine rn_iconst 662 dL_law_661 rfl ic_0 ?_
          exact rn_iret .boolean dL_law_662 rfl rfl (Or.inr ⟨rfl, by decide, by decide⟩) (ok_some hf :)
      refine ro_arm hf (fun z21 hf => ?_) (fun z21 hf => ?_)
      · refine rn_tabIn 663 dL_law_32 (by rw [z21]; decide) (by rw [z21]; decide) (by rw [z21]; rfl) rfl ?_
        refine rn_aload_n 664 dL_law_663 rfl rfl ?_
        refine rn_aload_n 665 dL_law_664 rfl rfl ?_
        refine rn_iload_n 666 dL_law_665 rfl rfl ?_
        refine rn_iconst 667 dL_law_666 rfl ic_1 ?_
        refine rn_iadd 668 dL_law_667 rfl ?_
        refine ro_scr 669 dL_law_668 rfl hf (fun v90 hf => ?_)
        refine rn_aload_n 670 dL_law_669 rfl rfl ?_
        refine rn_iload_n 671 dL_law_670 rfl rfl ?_
        refine rn_iconst 672 dL_law_671 rfl ic_2 ?_
        refine rn_iadd 673 dL_law_672 rfl ?_
        refine ro_scr 674 dL_law_673 rfl hf (fun v91 hf => ?_)
        refine ro_cVi (M' := M_X4_warmth) (As := [.int v90, .int v91]) (o := o1) (st := []) 677 (158, 2178) dL_law_674 rfl l_L_100 v_X4_warmth ⟨Nat.le_of_ble_eq_true rfl, Nat.le_of_ble_eq_true rfl⟩ rfl rfl (Nat.le_of_ble_eq_true rfl) (Nat.le_of_ble_eq_true rfl) ⟨rfl, Nat.le_of_ble_eq_true rfl, Nat.le_of_ble_eq_true rfl⟩ hf (fun X z => ok_ck z) rfl (fun X z => T_X4_warmth z) (fun q92 hf => ?_)
        refine rn_aload_n 678 dL_law_677 rfl rfl ?_
        refine rn_aload_n 679 dL_law_678 rfl rfl ?_
        refine rn_iload_n 680 dL_law_679 rfl rfl ?_
        refine rn_iconst 681 dL_law_680 rfl ic_1 ?_
        refine rn_iadd 682 dL_law_681 rfl ?_
        refine ro_scr 683 dL_law_682 rfl hf (fun v93 hf => ?_)
        refine rn_aload_n 684 dL_law_683 rfl rfl ?_
        refine rn_iload_n 685 dL_law_684 rfl rfl ?_
        refine rn_iconst 686 dL_law_685 rfl ic_2 ?_
        refine rn_iadd 687 dL_law_686 rfl ?_
        refine ro_scr 688 dL_law_687 rfl hf (fun v94 hf => ?_)
        refine ro_cVi (M' := M_X5_warmth) (As := [.int v93, .int v94]) (o := o2) (st := [.int q92.1]) 691 (158, 2178) dL_law_688 rfl l_L_103 v_X5_warmth ⟨Nat.le_of_ble_eq_true rfl, Nat.le_of_ble_eq_true rfl⟩ rfl rfl (Nat.le_of_ble_eq_true rfl) (Nat.le_of_ble_eq_true rfl) ⟨rfl, Nat.le_of_ble_eq_true rfl, Nat.le_of_ble_eq_true rfl⟩ hf (fun X z => ok_ck z) rfl (fun X z => T_X5_warmth z) (fun q95 hf => ?_)
        refine ro_icmp_eq 874 694 dL_law_691 rfl rfl hf (fun hf => ?_) (fun hf => ?_)
        · refine rn_iinc (lv' := [(0, .ref (gB G)), (1, .ref (ad G o1)), (2, .ref (ad G o2)), (3, .int (x3 + 5))]) 877 dL_law_874 rfl (Nat.le_of_ble_eq_true rfl) rfl (inc_5 _) rfl ?_
          refine rn_goto 18 dL_law_877 rfl ?_
          exact ih _ _ hf
        · refine rn_iconst 695 dL_law_694 rfl ic_0 ?_
          exact rn_iret .boolean dL_law_695 rfl rfl (Or.inr ⟨rfl, by decide, by decide⟩) (ok_some hf :)
      refine ro_arm hf (fun z22 hf => ?_) (fun z22 hf => ?_)
      · refine rn_tabIn 696 dL_law_32 (by rw [z22]; decide) (by rw [z22]; decide) (by rw [z22]; rfl) rfl ?_
        refine rn_aload_n 697 dL_law_696 rfl rfl ?_
        refine rn_aload_n 698 dL_law_697 rfl rfl ?_
        refine rn_iload_n 699 dL_law_698 rfl rfl ?_
        refine rn_iconst 700 dL_law_699 rfl ic_1 ?_
        refine rn_iadd 701 dL_law_700 rfl ?_
        refine ro_scr 702 dL_law_701 rfl hf (fun v96 hf => ?_)
        refine rn_aload_n 703 dL_law_702 rfl rfl ?_
        refine rn_iload_n 704 dL_law_703 rfl rfl ?_
        refine rn_iconst 705 dL_law_704 rfl ic_2 ?_
        refine rn_iadd 706 dL_law_705 rfl ?_
        refine ro_scr 707 dL_law_706 rfl hf (fun v97 hf => ?_)
        refine rn_aload_n 708 dL_law_707 rfl rfl ?_
        refine rn_iload_n 709 dL_law_708 rfl rfl ?_
        refine rn_iconst 710 dL_law_709 rfl ic_3 ?_
        refine rn_iadd 711 dL_law_710 rfl ?_
        refine ro_scr 712 dL_law_711 rfl hf (fun v98 hf => ?_)
        refine ro_cVi (M' := M_X4_seen) (As := [.int v96, .int v97, .int v98]) (o := o1) (st := []) 715 (158, 2178) dL_law_712 rfl l_L_104 v_X4_seen ⟨Nat.le_of_ble_eq_true rfl, Nat.le_of_ble_eq_true rfl⟩ rfl rfl (Nat.le_of_ble_eq_true rfl) (Nat.le_of_ble_eq_true rfl) ⟨rfl, Nat.le_of_ble_eq_true rfl, Nat.le_of_ble_eq_true rfl⟩ hf (fun X z => ok_ck z) rfl (fun X z => T_X4_seen z) (fun q99 hf => ?_)
        refine rn_aload_n 716 dL_law_715 rfl rfl ?_
        refine rn_aload_n 717 dL_law_716 rfl rfl ?_
        refine rn_iload_n 718 dL_law_717 rfl rfl ?_
        refine rn_iconst 719 dL_law_718 rfl ic_1 ?_
        refine rn_iadd 720 dL_law_719 rfl ?_
        refine ro_scr 721 dL_law_720 rfl hf (fun v100 hf => ?_)
        refine rn_aload_n 722 dL_law_721 rfl rfl ?_
        refine rn_iload_n 723 dL_law_722 rfl rfl ?_
        refine rn_iconst 724 dL_law_723 rfl ic_2 ?_
        refine rn_iadd 725 dL_law_724 rfl ?_
        refine ro_scr 726 dL_law_725 rfl hf (fun v101 hf => ?_)
        refine rn_aload_n 727 dL_law_726 rfl rfl ?_
        refine rn_iload_n 728 dL_law_727 rfl rfl ?_
        refine rn_iconst 729 dL_law_728 rfl ic_3 ?_
        refine rn_iadd 730 dL_law_729 rfl ?_
        refine ro_scr 731 dL_law_730 rfl hf (fun v102 hf => ?_)
        refine ro_cVi (M' := M_X5_seen) (As := [.int v100, .int v101, .int v102]) (o := o2) (st := [.int q99.1]) 734 (158, 2178) dL_law_731 rfl l_L_108 v_X5_seen ⟨Nat.le_of_ble_eq_true rfl, Nat.le_of_ble_eq_true rfl⟩ rfl rfl (Nat.le_of_ble_eq_true rfl) (Nat.le_of_ble_eq_true rfl) ⟨rfl, Nat.le_of_ble_eq_true rfl, Nat.le_of_ble_eq_true rfl⟩ hf (fun X z => ok_ck z) rfl (fun X z => T_X5_seen z) (fun q103 hf => ?_)
        refine ro_icmp_eq 874 737 dL_law_734 rfl rfl hf (fun hf => ?_) (fun hf => ?_)
        · refine rn_iinc (lv' := [(0, .ref (gB G)), (1, .ref (ad G o1)), (2, .ref (ad G o2)), (3, .int (x3 + 5))]) 877 dL_law_874 rfl (Nat.le_of_ble_eq_true rfl) rfl (inc_5 _) rfl ?_
          refine rn_goto 18 dL_law_877 rfl ?_
          exact ih _ _ hf
        · refine rn_iconst 738 dL_law_737 rfl ic_0 ?_
          exact rn_iret .boolean dL_law_738 rfl rfl (Or.inr ⟨rfl, by decide, by decide⟩) (ok_some hf :)
      refine ro_arm hf (fun z23 hf => ?_) (fun z23 hf => ?_)
      · refine rn_tabIn 739 dL_law_32 (by rw [z23]; decide) (by rw [z23]; decide) (by rw [z23]; rfl) rfl ?_
        refine rn_aload_n 740 dL_law_739 rfl rfl ?_
        refine ro_cVi (M' := M_X4_forget) (As := []) (o := o1) (st := []) 743 (158, 2178) dL_law_740 rfl l_L_109 v_X4_forget ⟨Nat.le_of_ble_eq_true rfl, Nat.le_of_ble_eq_true rfl⟩ rfl rfl (Nat.le_of_ble_eq_true rfl) (Nat.le_of_ble_eq_true rfl) ⟨rfl, Nat.le_of_ble_eq_true rfl, Nat.le_of_ble_eq_true rfl⟩ hf (fun X z => ok_ck z) rfl (fun X z => T_X4_forget z) (fun q104 hf => ?_)
        refine rn_aload_n 744 dL_law_743 rfl rfl ?_
        refine ro_cVi (M' := M_X5_forget) (As := []) (o := o2) (st := [.int q104.1]) 747 (158, 2178) dL_law_744 rfl l_L_112 v_X5_forget ⟨Nat.le_of_ble_eq_true rfl, Nat.le_of_ble_eq_true rfl⟩ rfl rfl (Nat.le_of_ble_eq_true rfl) (Nat.le_of_ble_eq_true rfl) ⟨rfl, Nat.le_of_ble_eq_true rfl, Nat.le_of_ble_eq_true rfl⟩ hf (fun X z => ok_ck z) rfl (fun X z => T_X5_forget z) (fun q105 hf => ?_)
        refine ro_icmp_eq 874 750 dL_law_747 rfl rfl hf (fun hf => ?_) (fun hf => ?_)
        · refine rn_iinc (lv' := [(0, .ref (gB G)), (1, .ref (ad G o1)), (2, .ref (ad G o2)), (3, .int (x3 + 5))]) 877 dL_law_874 rfl (Nat.le_of_ble_eq_true rfl) rfl (inc_5 _) rfl ?_
          refine rn_goto 18 dL_law_877 rfl ?_
          exact ih _ _ hf
        · refine rn_iconst 751 dL_law_750 rfl ic_0 ?_
          exact rn_iret .boolean dL_law_751 rfl rfl (Or.inr ⟨rfl, by decide, by decide⟩) (ok_some hf :)
      refine ro_arm hf (fun z24 hf => ?_) (fun z24 hf => ?_)
      · refine rn_tabIn 752 dL_law_32 (by rw [z24]; decide) (by rw [z24]; decide) (by rw [z24]; rfl) rfl ?_
        refine rn_aload_n 753 dL_law_752 rfl rfl ?_
        refine rn_aload_n 754 dL_law_753 rfl rfl ?_
        refine rn_iload_n 755 dL_law_754 rfl rfl ?_
        refine rn_iconst 756 dL_law_755 rfl ic_1 ?_
        refine rn_iadd 757 dL_law_756 rfl ?_
        refine ro_scr 758 dL_law_757 rfl hf (fun v106 hf => ?_)
        refine ro_cVi (M' := M_X4_kinds) (As := [.int v106]) (o := o1) (st := []) 761 (158, 2178) dL_law_758 rfl l_L_113 v_X4_kinds ⟨Nat.le_of_ble_eq_true rfl, Nat.le_of_ble_eq_true rfl⟩ rfl rfl (Nat.le_of_ble_eq_true rfl) (Nat.le_of_ble_eq_true rfl) ⟨rfl, Nat.le_of_ble_eq_true rfl, Nat.le_of_ble_eq_true rfl⟩ hf (fun X z => ok_ck z) rfl (fun X z => T_X4_kinds z) (fun q107 hf => ?_)
        refine rn_aload_n 762 dL_law_761 rfl rfl ?_
        refine rn_aload_n 763 dL_law_762 rfl rfl ?_
        refine rn_iload_n 764 dL_law_763 rfl rfl ?_
        refine rn_iconst 765 dL_law_764 rfl ic_1 ?_
        refine rn_iadd 766 dL_law_765 rfl ?_
        refine ro_scr 767 dL_law_766 rfl hf (fun v108 hf => ?_)
        refine ro_cVi (M' := M_X5_kinds) (As := [.int v108]) (o := o2) (st := [.int q107.1]) 770 (158, 2178) dL_law_767 rfl l_L_116 v_X5_kinds ⟨Nat.le_of_ble_eq_true rfl, Nat.le_of_ble_eq_true rfl⟩ rfl rfl (Nat.le_of_ble_eq_true rfl) (Nat.le_of_ble_eq_true rfl) ⟨rfl, Nat.le_of_ble_eq_true rfl, Nat.le_of_ble_eq_true rfl⟩ hf (fun X z => ok_ck z) rfl (fun X z => T_X5_kinds z) (fun q109 hf => ?_)
        refine ro_icmp_eq 874 773 dL_law_770 rfl rfl hf (fun hf => ?_) (fun hf => ?_)
        · refine rn_iinc (lv' := [(0, .ref (gB G)), (1, .ref (ad G o1)), (2, .ref (ad G o2)), (3, .int (x3 + 5))]) 877 dL_law_874 rfl (Nat.le_of_ble_eq_true rfl) rfl (inc_5 _) rfl ?_
          refine rn_goto 18 dL_law_877 rfl ?_
          exact ih _ _ hf
        · refine rn_iconst 774 dL_law_773 rfl ic_0 ?_
          exact rn_iret .boolean dL_law_774 rfl rfl (Or.inr ⟨rfl, by decide, by decide⟩) (ok_some hf :)
      refine ro_arm hf (fun z25 hf => ?_) (fun z25 hf => ?_)
      · refine rn_tabIn 775 dL_law_32 (by rw [z25]; decide) (by rw [z25]; decide) (by rw [z25]; rfl) rfl ?_
        refine rn_aload_n 776 dL_law_775 rfl rfl ?_
        refine rn_aload_n 777 dL_law_776 rfl rfl ?_
        refine rn_iload_n 778 dL_law_777 rfl rfl ?_
        refine rn_iconst 779 dL_law_778 rfl ic_1 ?_
        refine rn_iadd 780 dL_law_779 rfl ?_
        refine ro_scr 781 dL_law_780 rfl hf (fun v110 hf => ?_)
        refine ro_cVi (M' := M_X4_habits) (As := [.int v110]) (o := o1) (st := []) 784 (158, 2178) dL_law_781 rfl l_L_117 v_X4_habits ⟨Nat.le_of_ble_eq_true rfl, Nat.le_of_ble_eq_true rfl⟩ rfl rfl (Nat.le_of_ble_eq_true rfl) (Nat.le_of_ble_eq_true rfl) ⟨rfl, Nat.le_of_ble_eq_true rfl, Nat.le_of_ble_eq_true rfl⟩ hf (fun X z => ok_ck z) rfl (fun X z => T_X4_habits z) (fun q111 hf => ?_)
        refine rn_aload_n 785 dL_law_784 rfl rfl ?_
        refine rn_aload_n 786 dL_law_785 rfl rfl ?_
        refine rn_iload_n 787 dL_law_786 rfl rfl ?_
        refine rn_iconst 788 dL_law_787 rfl ic_1 ?_
        refine rn_iadd 789 dL_law_788 rfl ?_
        refine ro_scr 790 dL_law_789 rfl hf (fun v112 hf => ?_)
        refine ro_cVi (M' := M_X5_habits) (As := [.int v112]) (o := o2) (st := [.int q111.1]) 793 (158, 2178) dL_law_790 rfl l_L_120 v_X5_habits ⟨Nat.le_of_ble_eq_true rfl, Nat.le_of_ble_eq_true rfl⟩ rfl rfl (Nat.le_of_ble_eq_true rfl) (Nat.le_of_ble_eq_true rfl) ⟨rfl, Nat.le_of_ble_eq_true rfl, Nat.le_of_ble_eq_true rfl⟩ hf (fun X z => ok_ck z) rfl (fun X z => T_X5_habits z) (fun q113 hf => ?_)
        refine ro_icmp_eq 874 796 dL_law_793 rfl rfl hf (fun hf => ?_) (fun hf => ?_)
        · refine rn_iinc (lv' := [(0, .ref (gB G)), (1, .ref (ad G o1)), (2, .ref (ad G o2)), (3, .int (x3 + 5))]) 877 dL_law_874 rfl (Nat.le_of_ble_eq_true rfl) rfl (inc_5 _) rfl ?_
          refine rn_goto 18 dL_law_877 rfl ?_
          exact ih _ _ hf
        · refine rn_iconst 797 dL_law_796 rfl ic_0 ?_
          exact rn_iret .boolean dL_law_797 rfl rfl (Or.inr ⟨rfl, by decide, by decide⟩) (ok_some hf :)
      refine ro_arm hf (fun z26 hf => ?_) (fun z26 hf => ?_)
      · refine rn_tabIn 798 dL_law_32 (by rw [z26]; decide) (by rw [z26]; decide) (by rw [z26]; rfl) rfl ?_
        refine rn_aload_n 799 dL_law_798 rfl rfl ?_
        refine rn_aload_n 800 dL_law_799 rfl rfl ?_
        refine rn_iload_n 801 dL_law_800 rfl rfl ?_
        refine rn_iconst 802 dL_law_801 rfl ic_1 ?_
        refine rn_iadd 803 dL_law_802 rfl ?_
        refine ro_scr 804 dL_law_803 rfl hf (fun v114 hf => ?_)
        refine rn_aload_n 805 dL_law_804 rfl rfl ?_
        refine rn_iload_n 806 dL_law_805 rfl rfl ?_
        refine rn_iconst 807 dL_law_806 rfl ic_2 ?_
        refine rn_iadd 808 dL_law_807 rfl ?_
        refine ro_scr 809 dL_law_808 rfl hf (fun v115 hf => ?_)
        refine rn_aload_n 810 dL_law_809 rfl rfl ?_
        refine rn_iload_n 811 dL_law_810 rfl rfl ?_
        refine rn_iconst 812 dL_law_811 rfl ic_3 ?_
        refine rn_iadd 813 dL_law_812 rfl ?_
        refine ro_scr 814 dL_law_813 rfl hf (fun v116 hf => ?_)
        refine rn_aload_n 815 dL_law_814 rfl rfl ?_
        refine rn_iload_n 816 dL_law_815 rfl rfl ?_
        refine rn_iconst 817 dL_law_816 rfl ic_4 ?_
        refine rn_iadd 818 dL_law_817 rfl ?_
        refine ro_scr 819 dL_law_818 rfl hf (fun v117 hf => ?_)
        refine ro_cVi (M' := M_X4_foxes) (As := [.int v114, .int v115, .int v116, .int v117]) (o := o1) (st := []) 822 (158, 2178) dL_law_819 rfl l_L_121 v_X4_foxes ⟨Nat.le_of_ble_eq_true rfl, Nat.le_of_ble_eq_true rfl⟩ rfl rfl (Nat.le_of_ble_eq_true rfl) (Nat.le_of_ble_eq_true rfl) ⟨rfl, Nat.le_of_ble_eq_true rfl, Nat.le_of_ble_eq_true rfl⟩ hf (fun X z => ok_ck z) rfl (fun X z => T_X4_foxes z) (fun q118 hf => ?_)
        refine rn_aload_n 823 dL_law_822 rfl rfl ?_
        refine rn_aload_n 824 dL_law_823 rfl rfl ?_
        refine rn_iload_n 825 dL_law_824 rfl rfl ?_
        refine rn_iconst 826 dL_law_825 rfl ic_1 ?_
        refine rn_iadd 827 dL_law_826 rfl ?_
        refine ro_scr 828 dL_law_827 rfl hf (fun v119 hf => ?_)
        refine rn_aload_n 829 dL_law_828 rfl rfl ?_
        refine rn_iload_n 830 dL_law_829 rfl rfl ?_
        refine rn_iconst 831 dL_law_830 rfl ic_2 ?_
        refine rn_iadd 832 dL_law_831 rfl ?_
        refine ro_scr 833 dL_law_832 rfl hf (fun v120 hf => ?_)
        refine rn_aload_n 834 dL_law_833 rfl rfl ?_
        refine rn_iload_n 835 dL_law_834 rfl rfl ?_
        refine rn_iconst 836 dL_law_835 rfl ic_3 ?_
        refine rn_iadd 837 dL_law_836 rfl ?_
        refine ro_scr 838 dL_law_837 rfl hf (fun v121 hf => ?_)
        refine rn_aload_n 839 dL_law_838 rfl rfl ?_
        refine rn_iload_n 840 dL_law_839 rfl rfl ?_
        refine rn_iconst 841 dL_law_840 rfl ic_4 ?_
        refine rn_iadd 842 dL_law_841 rfl ?_
        refine ro_scr 843 dL_law_842 rfl hf (fun v122 hf => ?_)
        refine ro_cVi (M' := M_X5_foxes) (As := [.int v119, .int v120, .int v121, .int v122]) (o := o2) (st := [.int q118.1]) 846 (158, 2178) dL_law_843 rfl l_L_125 v_X5_foxes ⟨Nat.le_of_ble_eq_true rfl, Nat.le_of_ble_eq_true rfl⟩ rfl rfl (Nat.le_of_ble_eq_true rfl) (Nat.le_of_ble_eq_true rfl) ⟨rfl, Nat.le_of_ble_eq_true rfl, Nat.le_of_ble_eq_true rfl⟩ hf (fun X z => ok_ck z) rfl (fun X z => T_X5_foxes z) (fun q123 hf => ?_)
        refine ro_icmp_eq 874 849 dL_law_846 rfl rfl hf (fun hf => ?_) (fun hf => ?_)
        · refine rn_iinc (lv' := [(0, .ref (gB G)), (1, .ref (ad G o1)), (2, .ref (ad G o2)), (3, .int (x3 + 5))]) 877 dL_law_874 rfl (Nat.le_of_ble_eq_true rfl) rfl (inc_5 _) rfl ?_
          refine rn_goto 18 dL_law_877 rfl ?_
          exact ih _ _ hf
        · refine rn_iconst 850 dL_law_849 rfl ic_0 ?_
          exact rn_iret .boolean dL_law_850 rfl rfl (Or.inr ⟨rfl, by decide, by decide⟩) (ok_some hf :)
      refine ro_arm hf (fun z27 hf => ?_) (fun z27 hf => ?_)
      · refine rn_tabIn 851 dL_law_32 (by rw [z27]; decide) (by rw [z27]; decide) (by rw [z27]; rfl) rfl ?_
        refine rn_aload_n 852 dL_law_851 rfl rfl ?_
        refine rn_aload_n 853 dL_law_852 rfl rfl ?_
        refine rn_iload_n 854 dL_law_853 rfl rfl ?_
        refine rn_iconst 855 dL_law_854 rfl ic_1 ?_
        refine rn_iadd 856 dL_law_855 rfl ?_
        refine ro_scr 857 dL_law_856 rfl hf (fun v124 hf => ?_)
        refine ro_cVp (M' := M_X4_count) (As := [.int v124]) (o := o1) (st := []) 860 (158, 2178) dL_law_857 rfl l_L_126 v_X4_count ⟨Nat.le_of_ble_eq_true rfl, Nat.le_of_ble_eq_true rfl⟩ rfl rfl (Nat.le_of_ble_eq_true rfl) (Nat.le_of_ble_eq_true rfl) ⟨rfl, Nat.le_of_ble_eq_true rfl, Nat.le_of_ble_eq_true rfl⟩ hf (fun X z => ok_ck z) rfl (fun X z => T_X4_count z) (fun v125 hf => ?_)
        refine rn_aload_n 861 dL_law_860 rfl rfl ?_
        refine rn_aload_n 862 dL_law_861 rfl rfl ?_
        refine rn_iload_n 863 dL_law_862 rfl rfl ?_
        refine rn_iconst 864 dL_law_863 rfl ic_1 ?_
        refine rn_iadd 865 dL_law_864 rfl ?_
        refine ro_scr 866 dL_law_865 rfl hf (fun v126 hf => ?_)
        refine ro_cVp (M' := M_X5_count) (As := [.int v126]) (o := o2) (st := [.int v125]) 869 (158, 2178) dL_law_866 rfl l_L_129 v_X5_count ⟨Nat.le_of_ble_eq_true rfl, Nat.le_of_ble_eq_true rfl⟩ rfl rfl (Nat.le_of_ble_eq_true rfl) (Nat.le_of_ble_eq_true rfl) ⟨rfl, Nat.le_of_ble_eq_true rfl, Nat.le_of_ble_eq_true rfl⟩ hf (fun X z => ok_ck z) rfl (fun X z => T_X5_count z) (fun v127 hf => ?_)
        refine ro_icmp_eq 874 872 dL_law_869 rfl rfl hf (fun hf => ?_) (fun hf => ?_)
        · refine rn_iinc (lv' := [(0, .ref (gB G)), (1, .ref (ad G o1)), (2, .ref (ad G o2)), (3, .int (x3 + 5))]) 877 dL_law_874 rfl (Nat.le_of_ble_eq_true rfl) rfl (inc_5 _) rfl ?_
          refine rn_goto 18 dL_law_877 rfl ?_
          exact ih _ _ hf
        · refine rn_iconst 873 dL_law_872 rfl ic_0 ?_
          exact rn_iret .boolean dL_law_873 rfl rfl (Or.inr ⟨rfl, by decide, by decide⟩) (ok_some hf :)
      refine rn_tabOut 874 dL_law_32 (tb_out28 z0 z1 z2 z3 z4 z5 z6 z7 z8 z9 z10 z11 z12 z13 z14 z15 z16 z17 z18 z19 z20 z21 z22 z23 z24 z25 z26 z27) rfl ?_
      refine rn_iinc (lv' := [(0, .ref (gB G)), (1, .ref (ad G o1)), (2, .ref (ad G o2)), (3, .int (x3 + 5))]) 877 dL_law_874 rfl (Nat.le_of_ble_eq_true rfl) rfl (inc_5 _) rfl ?_
      refine rn_goto 18 dL_law_877 rfl ?_
      exact ih _ _ hf
theorem T_L_law {G : WG} {post : PO} {h : AH} (hf : OkA (F_L_law (gLn G) (gXs G) h) (fun q => post (some q.1) q.2)) : Rn G M_L_law (0, 0) 0 [(0, .ref (gB G))] [] h post := by
  refine ro_new 3 4 dL_law_0 rfl ⟨_, rfl, n_L_7, i_X4.1, i_X4.2⟩ rfl (Nat.le_of_ble_eq_true rfl) (Nat.le_of_ble_eq_true rfl) hf (fun h1 hf => ?_)
  refine rn_dup 4 dL_law_3 rfl rfl ?_
  refine ro_cIv (M' := M_X4_init) (As := []) (o := hN h) (st := [.ref (ad G (hN h))]) 7 (145, 1238) dL_law_4 rfl l_L_9 v_X4_init ⟨Nat.le_of_ble_eq_true rfl, Nat.le_of_ble_eq_true rfl⟩ rfl rfl (Nat.le_of_ble_eq_true rfl) (Nat.le_of_ble_eq_true rfl) ⟨rfl, Nat.le_of_ble_eq_true rfl, Nat.le_of_ble_eq_true rfl⟩ hf (fun X z => T_X4_init z) (fun h2 hf => ?_)
  refine rn_astore_n (lv' := [(0, .ref (gB G)), (1, .ref (ad G (hN h)))]) 8 dL_law_7 rfl (Nat.le_of_ble_eq_true rfl) rfl ?_
  refine ro_new 11 5 dL_law_8 rfl ⟨_, rfl, n_L_10, i_X5.1, i_X5.2⟩ rfl (Nat.le_of_ble_eq_true rfl) (Nat.le_of_ble_eq_true rfl) hf (fun h3 hf => ?_)
  refine rn_dup 12 dL_law_11 rfl rfl ?_
  refine ro_cIv (M' := M_X5_init) (As := []) (o := hN h2) (st := [.ref (ad G (hN h2))]) 15 (158, 2178) dL_law_12 rfl l_L_12 v_X5_init ⟨Nat.le_of_ble_eq_true rfl, Nat.le_of_ble_eq_true rfl⟩ rfl rfl (Nat.le_of_ble_eq_true rfl) (Nat.le_of_ble_eq_true rfl) ⟨rfl, Nat.le_of_ble_eq_true rfl, Nat.le_of_ble_eq_true rfl⟩ hf (fun X z => T_X5_init z) (fun h4 hf => ?_)
  refine rn_astore_n (lv' := [(0, .ref (gB G)), (1, .ref (ad G (hN h))), (2, .ref (ad G (hN h2)))]) 16 dL_law_15 rfl (Nat.le_of_ble_eq_true rfl) rfl ?_
  refine rn_iconst 17 dL_law_16 rfl ic_0 ?_
  refine rn_istore_n (lv' := [(0, .ref (gB G)), (1, .ref (ad G (hN h))), (2, .ref (ad G (hN h2))), (3, .int 0)]) 18 dL_law_17 rfl (Nat.le_of_ble_eq_true rfl) rfl ?_
  refine TL_L_law_18 ?_ FU _ _ hf
  intro h128 y129 hf
  refine rn_iconst 881 dL_law_880 rfl ic_1 ?_
  exact rn_iret .boolean dL_law_881 rfl rfl (Or.inr ⟨rfl, by decide, by decide⟩) (ok_some hf :)
